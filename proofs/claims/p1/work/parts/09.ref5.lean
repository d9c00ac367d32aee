abbrev b_Tx_at : ByteArray := prog_16_method_3_code
def y_Tx_at : MethodName := ⟨R_Tx, "at", "(I)I"⟩
abbrev w_Tx_at : List Cond := .code y_Tx_at b_Tx_at 2 (some .int) :: lw_gd
abbrev b_Tx_go : ByteArray := prog_16_method_8_code
def y_Tx_go : MethodName := ⟨R_Tx, "go", "()Z"⟩
abbrev w_Tx_go : List Cond := .code y_Tx_go b_Tx_go 3 (some .boolean) :: lw_gd
abbrev b_Tx_isWord : ByteArray := prog_16_method_12_code
def y_Tx_isWord : MethodName := ⟨R_Tx, "isWord", "(I)Z"⟩
abbrev w_Tx_isWord : List Cond := .code y_Tx_isWord b_Tx_isWord 2 (some .boolean) :: lw_gd
abbrev b_Tx_program : ByteArray := prog_16_method_32_code
def y_Tx_program : MethodName := ⟨R_Tx, "program", "()Z"⟩
abbrev w_Tx_program : List Cond := .code y_Tx_program b_Tx_program 3 (some .boolean) :: lw_gd
abbrev b_Tx_isSmall : ByteArray := prog_16_method_33_code
def y_Tx_isSmall : MethodName := ⟨R_Tx, "isSmall", "()Z"⟩
abbrev w_Tx_isSmall : List Cond := .code y_Tx_isSmall b_Tx_isSmall 6 (some .boolean) :: lw_gd
abbrev b_Tx_read : ByteArray := prog_16_method_34_code
def y_Tx_read : MethodName := ⟨R_Tx, "read", "()I"⟩
abbrev w_Tx_read : List Cond := .code y_Tx_read b_Tx_read 2 (some .int) :: lw_gd
abbrev b_Mr_cut : ByteArray := prog_15_method_4_code
def y_Mr_cut : MethodName := ⟨R_Mr, "cut", "()V"⟩
abbrev w_Mr_cut : List Cond := .code y_Mr_cut b_Mr_cut 3 none :: lw_gd
abbrev b_Mr_read : ByteArray := prog_15_method_17_code
def y_Mr_read : MethodName := ⟨R_Mr, "read", "()I"⟩
abbrev w_Mr_read : List Cond := .code y_Mr_read b_Mr_read 3 (some .int) :: lw_gd
abbrev b_Mo_forget : ByteArray := prog_14_method_23_code
def y_Mo_forget : MethodName := ⟨R_Mo, "forget", "(I)V"⟩
abbrev w_Mo_forget : List Cond := .code y_Mo_forget b_Mo_forget 3 none :: lw_gd
abbrev b_Mo_readPlant : ByteArray := prog_14_method_10_code
def y_Mo_readPlant : MethodName := ⟨R_Mo, "readPlant", "()I"⟩
abbrev w_Mo_readPlant : List Cond := .code y_Mo_readPlant b_Mo_readPlant 2 (some .int) :: lw_gd
abbrev b_Mo_end : ByteArray := prog_14_method_3_code
def y_Mo_end : MethodName := ⟨R_Mo, "end", "(II)I"⟩
abbrev w_Mo_end : List Cond := .code y_Mo_end b_Mo_end 6 (some .int) :: lw_gd
theorem mw_19 : (.initialized "BreweryHouseModel$Text" : Cond) ∈ lw_gd := tb_mem (i := 19) (by decide +kernel) (by decide +kernel)
theorem mw_1580 : (.fieldLink "BreweryHouseModel$Text" 65 "BreweryHouseModel$Text" "size" "I" : Cond) ∈ lw_gd := tb_mem (i := 1580) (by decide +kernel) (by decide +kernel)
theorem mw_1581 : (.fieldLink "BreweryHouseModel$Text" 133 "BreweryHouseModel$Text" "place" "I" : Cond) ∈ lw_gd := tb_mem (i := 1581) (by decide +kernel) (by decide +kernel)
theorem mw_1582 : (.fieldLink "BreweryHouseModel$Text" 140 "BreweryHouseModel$Text" "nowLine" "I" : Cond) ∈ lw_gd := tb_mem (i := 1582) (by decide +kernel) (by decide +kernel)
theorem mw_1583 : (.fieldLink "BreweryHouseModel$Text" 146 "BreweryHouseModel$Text" "token" "I" : Cond) ∈ lw_gd := tb_mem (i := 1583) (by decide +kernel) (by decide +kernel)
theorem mw_1584 : (.fieldLink "BreweryHouseModel$Text" 69 "BreweryHouseModel$Text" "begin" "I" : Cond) ∈ lw_gd := tb_mem (i := 1584) (by decide +kernel) (by decide +kernel)
theorem mw_1585 : (.fieldLink "BreweryHouseModel$Text" 72 "BreweryHouseModel$Text" "end" "I" : Cond) ∈ lw_gd := tb_mem (i := 1585) (by decide +kernel) (by decide +kernel)
theorem mw_1586 : (.fieldLink "BreweryHouseModel$Text" 143 "BreweryHouseModel$Text" "tokenLine" "I" : Cond) ∈ lw_gd := tb_mem (i := 1586) (by decide +kernel) (by decide +kernel)
theorem mw_1589 : (.fieldLink "BreweryHouseModel$Text" 159 "BreweryHouseModel$Text" "wrong" "I" : Cond) ∈ lw_gd := tb_mem (i := 1589) (by decide +kernel) (by decide +kernel)
theorem mw_1590 : (.fieldLink "BreweryHouseModel$Text" 228 "BreweryHouseModel$Text" "open" "I" : Cond) ∈ lw_gd := tb_mem (i := 1590) (by decide +kernel) (by decide +kernel)
theorem mw_1591 : (.fieldLink "BreweryHouseModel$Text" 186 "BreweryHouseModel$Text" "half" "I" : Cond) ∈ lw_gd := tb_mem (i := 1591) (by decide +kernel) (by decide +kernel)
theorem mw_1593 : (.fieldLink "BreweryHouseModel$Text" 189 "BreweryHouseModel$Text" "nodes" "I" : Cond) ∈ lw_gd := tb_mem (i := 1593) (by decide +kernel) (by decide +kernel)
theorem mw_1604 : (.fieldLink "BreweryHouseModel$Text" 198 "BreweryHouseModel$Text" "kidsMade" "I" : Cond) ∈ lw_gd := tb_mem (i := 1604) (by decide +kernel) (by decide +kernel)
theorem mw_1607 : (.fieldLink "BreweryHouseModel$Text" 281 "BreweryHouseModel$Text" "topsMade" "I" : Cond) ∈ lw_gd := tb_mem (i := 1607) (by decide +kernel) (by decide +kernel)
theorem mw_1608 : (.fieldLink "BreweryHouseModel$Text" 252 "BreweryHouseModel$Text" "names" "I" : Cond) ∈ lw_gd := tb_mem (i := 1608) (by decide +kernel) (by decide +kernel)
theorem mw_1616 : (.fieldLink "BreweryHouseModel$Text" 293 "BreweryHouseModel$Text" "nodeCount" "I" : Cond) ∈ lw_gd := tb_mem (i := 1616) (by decide +kernel) (by decide +kernel)
theorem mw_1617 : (.fieldLink "BreweryHouseModel$Text" 296 "BreweryHouseModel$Text" "topCount" "I" : Cond) ∈ lw_gd := tb_mem (i := 1617) (by decide +kernel) (by decide +kernel)
theorem mw_1619 : (.fieldLink "BreweryHouseModel$Text" 299 "BreweryHouseModel$Text" "nameCount" "I" : Cond) ∈ lw_gd := tb_mem (i := 1619) (by decide +kernel) (by decide +kernel)
theorem mw_1621 : (.fieldLink "BreweryHouseModel$Text" 302 "BreweryHouseModel$Text" "statements" "I" : Cond) ∈ lw_gd := tb_mem (i := 1621) (by decide +kernel) (by decide +kernel)
theorem mw_1623 : (.fieldLink "BreweryHouseModel$Text" 201 "BreweryHouseModel$Text" "high" "I" : Cond) ∈ lw_gd := tb_mem (i := 1623) (by decide +kernel) (by decide +kernel)
theorem mw_1626 : (.fieldLink "BreweryHouseModel$Text" 275 "BreweryHouseModel$Text" "made" "I" : Cond) ∈ lw_gd := tb_mem (i := 1626) (by decide +kernel) (by decide +kernel)
theorem mw_1713 : (.fieldLink "BreweryHouseModel$Rows" 59 "BreweryHouseModel$Rows" "size" "I" : Cond) ∈ lw_gd := tb_mem (i := 1713) (by decide +kernel) (by decide +kernel)
theorem mw_1716 : (.fieldLink "BreweryHouseModel$Rows" 63 "BreweryHouseModel$Rows" "words" "I" : Cond) ∈ lw_gd := tb_mem (i := 1716) (by decide +kernel) (by decide +kernel)
theorem mw_1717 : (.fieldLink "BreweryHouseModel$Rows" 70 "BreweryHouseModel$Rows" "next" "I" : Cond) ∈ lw_gd := tb_mem (i := 1717) (by decide +kernel) (by decide +kernel)
theorem mw_1723 : (.fieldLink "BreweryHouseModel$Rows" 88 "BreweryHouseModel$Rows" "nodes" "I" : Cond) ∈ lw_gd := tb_mem (i := 1723) (by decide +kernel) (by decide +kernel)
theorem mw_1724 : (.fieldLink "BreweryHouseModel$Rows" 85 "BreweryHouseModel$Rows" "half" "I" : Cond) ∈ lw_gd := tb_mem (i := 1724) (by decide +kernel) (by decide +kernel)
theorem mw_1725 : (.fieldLink "BreweryHouseModel$Rows" 120 "BreweryHouseModel$Rows" "made" "I" : Cond) ∈ lw_gd := tb_mem (i := 1725) (by decide +kernel) (by decide +kernel)
theorem mw_1810 : (.fieldLink "BreweryHouseModel" 58 "BreweryHouseModel" "lasts" "[I" : Cond) ∈ lw_gd := tb_mem (i := 1810) (by decide +kernel) (by decide +kernel)
theorem mw_1811 : (.fieldLink "BreweryHouseModel" 61 "BreweryHouseModel" "cleaned" "[I" : Cond) ∈ lw_gd := tb_mem (i := 1811) (by decide +kernel) (by decide +kernel)
theorem mw_1815 : (.fieldLink "BreweryHouseModel" 234 "BreweryHouseModel" "place" "I" : Cond) ∈ lw_gd := tb_mem (i := 1815) (by decide +kernel) (by decide +kernel)
theorem mw_1816 : (.fieldLink "BreweryHouseModel" 215 "BreweryHouseModel" "limit" "I" : Cond) ∈ lw_gd := tb_mem (i := 1816) (by decide +kernel) (by decide +kernel)
theorem mw_1847 : (.fieldLink "BreweryHouseModel" 144 "BreweryHouseModel" "senseWhat" "[I" : Cond) ∈ lw_gd := tb_mem (i := 1847) (by decide +kernel) (by decide +kernel)
theorem mw_1852 : (.fieldLink "BreweryHouseModel" 159 "BreweryHouseModel" "values" "[J" : Cond) ∈ lw_gd := tb_mem (i := 1852) (by decide +kernel) (by decide +kernel)
theorem mw_1879 : (.fieldLink "BreweryHouseModel" 261 "BreweryHouseModel" "newThings" "I" : Cond) ∈ lw_gd := tb_mem (i := 1879) (by decide +kernel) (by decide +kernel)
theorem mw_1880 : (.fieldLink "BreweryHouseModel" 265 "BreweryHouseModel" "newPipes" "I" : Cond) ∈ lw_gd := tb_mem (i := 1880) (by decide +kernel) (by decide +kernel)
theorem mw_2064 : (.methodLink "BreweryHouseModel" 218 y_Mo_readPlant : Cond) ∈ lw_gd := tb_mem (i := 2064) (by decide +kernel) (by decide +kernel)
theorem mw_2066 : (.instanceMethod y_Mo_readPlant : Cond) ∈ lw_gd := tb_mem (i := 2066) (by decide +kernel) (by decide +kernel)
theorem mw_2067 : (.code y_Mo_readPlant b_Mo_readPlant 2 (some .int) : Cond) ∈ lw_gd := tb_mem (i := 2067) (by decide +kernel) (by decide +kernel)
theorem mw_2103 : (.methodLink "BreweryHouseModel" 291 y_Mo_forget : Cond) ∈ lw_gd := tb_mem (i := 2103) (by decide +kernel) (by decide +kernel)
theorem mw_2105 : (.instanceMethod y_Mo_forget : Cond) ∈ lw_gd := tb_mem (i := 2105) (by decide +kernel) (by decide +kernel)
theorem mw_2106 : (.code y_Mo_forget b_Mo_forget 3 none : Cond) ∈ lw_gd := tb_mem (i := 2106) (by decide +kernel) (by decide +kernel)
theorem mw_2115 : (.methodLink "BreweryHouseModel" 227 y_Mr_read : Cond) ∈ lw_gd := tb_mem (i := 2115) (by decide +kernel) (by decide +kernel)
theorem mw_2116 : (.instanceMethod y_Mr_read : Cond) ∈ lw_gd := tb_mem (i := 2116) (by decide +kernel) (by decide +kernel)
theorem mw_2117 : (.selects "BreweryHouseModel$Rows" y_Mr_read y_Mr_read : Cond) ∈ lw_gd := tb_mem (i := 2117) (by decide +kernel) (by decide +kernel)
theorem mw_2118 : (.code y_Mr_read b_Mr_read 3 (some .int) : Cond) ∈ lw_gd := tb_mem (i := 2118) (by decide +kernel) (by decide +kernel)
theorem mw_2119 : (.methodLink "BreweryHouseModel$Rows" 126 y_Mr_cut : Cond) ∈ lw_gd := tb_mem (i := 2119) (by decide +kernel) (by decide +kernel)
theorem mw_2121 : (.instanceMethod y_Mr_cut : Cond) ∈ lw_gd := tb_mem (i := 2121) (by decide +kernel) (by decide +kernel)
theorem mw_2122 : (.code y_Mr_cut b_Mr_cut 3 none : Cond) ∈ lw_gd := tb_mem (i := 2122) (by decide +kernel) (by decide +kernel)
theorem mw_2174 : (.methodLink "BreweryHouseModel" 230 y_Tx_read : Cond) ∈ lw_gd := tb_mem (i := 2174) (by decide +kernel) (by decide +kernel)
theorem mw_2175 : (.instanceMethod y_Tx_read : Cond) ∈ lw_gd := tb_mem (i := 2175) (by decide +kernel) (by decide +kernel)
theorem mw_2176 : (.selects "BreweryHouseModel$Text" y_Tx_read y_Tx_read : Cond) ∈ lw_gd := tb_mem (i := 2176) (by decide +kernel) (by decide +kernel)
theorem mw_2177 : (.code y_Tx_read b_Tx_read 2 (some .int) : Cond) ∈ lw_gd := tb_mem (i := 2177) (by decide +kernel) (by decide +kernel)
theorem mw_2178 : (.methodLink "BreweryHouseModel$Text" 287 y_Tx_program : Cond) ∈ lw_gd := tb_mem (i := 2178) (by decide +kernel) (by decide +kernel)
theorem mw_2180 : (.instanceMethod y_Tx_program : Cond) ∈ lw_gd := tb_mem (i := 2180) (by decide +kernel) (by decide +kernel)
theorem mw_2181 : (.code y_Tx_program b_Tx_program 3 (some .boolean) : Cond) ∈ lw_gd := tb_mem (i := 2181) (by decide +kernel) (by decide +kernel)
theorem mw_2182 : (.methodLink "BreweryHouseModel$Text" 182 y_Tx_go : Cond) ∈ lw_gd := tb_mem (i := 2182) (by decide +kernel) (by decide +kernel)
theorem mw_2184 : (.instanceMethod y_Tx_go : Cond) ∈ lw_gd := tb_mem (i := 2184) (by decide +kernel) (by decide +kernel)
theorem mw_2185 : (.code y_Tx_go b_Tx_go 3 (some .boolean) : Cond) ∈ lw_gd := tb_mem (i := 2185) (by decide +kernel) (by decide +kernel)
theorem mw_2186 : (.methodLink "BreweryHouseModel$Text" 136 y_Tx_at : Cond) ∈ lw_gd := tb_mem (i := 2186) (by decide +kernel) (by decide +kernel)
theorem mw_2188 : (.instanceMethod y_Tx_at : Cond) ∈ lw_gd := tb_mem (i := 2188) (by decide +kernel) (by decide +kernel)
theorem mw_2189 : (.code y_Tx_at b_Tx_at 2 (some .int) : Cond) ∈ lw_gd := tb_mem (i := 2189) (by decide +kernel) (by decide +kernel)
theorem mw_2239 : (.methodLink "BreweryHouseModel$Text" 237 y_Tx_isWord : Cond) ∈ lw_gd := tb_mem (i := 2239) (by decide +kernel) (by decide +kernel)
theorem mw_2241 : (.instanceMethod y_Tx_isWord : Cond) ∈ lw_gd := tb_mem (i := 2241) (by decide +kernel) (by decide +kernel)
theorem mw_2242 : (.code y_Tx_isWord b_Tx_isWord 2 (some .boolean) : Cond) ∈ lw_gd := tb_mem (i := 2242) (by decide +kernel) (by decide +kernel)
theorem mw_2331 : (.methodLink "BreweryHouseModel$Text" 290 y_Tx_isSmall : Cond) ∈ lw_gd := tb_mem (i := 2331) (by decide +kernel) (by decide +kernel)
theorem mw_2333 : (.instanceMethod y_Tx_isSmall : Cond) ∈ lw_gd := tb_mem (i := 2333) (by decide +kernel) (by decide +kernel)
theorem mw_2334 : (.code y_Tx_isSmall b_Tx_isSmall 6 (some .boolean) : Cond) ∈ lw_gd := tb_mem (i := 2334) (by decide +kernel) (by decide +kernel)
theorem mw_2335 : (.methodLink "BreweryHouseModel" 231 y_Mo_closeAll : Cond) ∈ lw_gd := tb_mem (i := 2335) (by decide +kernel) (by decide +kernel)
theorem mw_2337 : (.instanceMethod y_Mo_closeAll : Cond) ∈ lw_gd := tb_mem (i := 2337) (by decide +kernel) (by decide +kernel)
theorem mw_2338 : (.code y_Mo_closeAll b_Mo_closeAll 1 none : Cond) ∈ lw_gd := tb_mem (i := 2338) (by decide +kernel) (by decide +kernel)
theorem sl_110 : (.selects "BreweryHouseModel$Text" y_Tx_program y_Tx_program : Cond) ∈ lw_gd := List.mem_filter.mpr ⟨List.mem_append_left _ (List.mem_of_getElem? (i := 110) (by decide +kernel)), by decide +kernel⟩
theorem sl_111 : (.selects "BreweryHouseModel$Text" y_Tx_go y_Tx_go : Cond) ∈ lw_gd := List.mem_filter.mpr ⟨List.mem_append_left _ (List.mem_of_getElem? (i := 111) (by decide +kernel)), by decide +kernel⟩
theorem sl_112 : (.selects "BreweryHouseModel$Text" y_Tx_at y_Tx_at : Cond) ∈ lw_gd := List.mem_filter.mpr ⟨List.mem_append_left _ (List.mem_of_getElem? (i := 112) (by decide +kernel)), by decide +kernel⟩
theorem sl_116 : (.selects "BreweryHouseModel$Text" y_Tx_isWord y_Tx_isWord : Cond) ∈ lw_gd := List.mem_filter.mpr ⟨List.mem_append_left _ (List.mem_of_getElem? (i := 116) (by decide +kernel)), by decide +kernel⟩
theorem sl_138 : (.selects "BreweryHouseModel$Text" y_Tx_isSmall y_Tx_isSmall : Cond) ∈ lw_gd := List.mem_filter.mpr ⟨List.mem_append_left _ (List.mem_of_getElem? (i := 138) (by decide +kernel)), by decide +kernel⟩
theorem sl_139 : (.selects "BreweryHouseModel" y_Mo_closeAll y_Mo_closeAll : Cond) ∈ lw_gd := List.mem_filter.mpr ⟨List.mem_append_left _ (List.mem_of_getElem? (i := 139) (by decide +kernel)), by decide +kernel⟩
theorem sl_89 : (.selects "BreweryHouseModel" y_Mo_readPlant y_Mo_readPlant : Cond) ∈ lw_gd := List.mem_filter.mpr ⟨List.mem_append_left _ (List.mem_of_getElem? (i := 89) (by decide +kernel)), by decide +kernel⟩
theorem sl_96 : (.selects "BreweryHouseModel" y_Mo_forget y_Mo_forget : Cond) ∈ lw_gd := List.mem_filter.mpr ⟨List.mem_append_left _ (List.mem_of_getElem? (i := 96) (by decide +kernel)), by decide +kernel⟩
theorem sl_97 : (.selects "BreweryHouseModel$Rows" y_Mr_cut y_Mr_cut : Cond) ∈ lw_gd := List.mem_filter.mpr ⟨List.mem_append_left _ (List.mem_of_getElem? (i := 97) (by decide +kernel)), by decide +kernel⟩
abbrev t_Tx_at_18 : List UInt8 := 172 :: []
abbrev t_Tx_at_17 : List UInt8 := 3 :: t_Tx_at_18
abbrev t_Tx_at_14 : List UInt8 := 167 :: 0 :: 4 :: t_Tx_at_17
abbrev t_Tx_at_13 : List UInt8 := 51 :: t_Tx_at_14
abbrev t_Tx_at_12 : List UInt8 := 27 :: t_Tx_at_13
abbrev t_Tx_at_9 : List UInt8 := 180 :: 0 :: 11 :: t_Tx_at_12
abbrev t_Tx_at_8 : List UInt8 := 42 :: t_Tx_at_9
abbrev t_Tx_at_5 : List UInt8 := 162 :: 0 :: 12 :: t_Tx_at_8
abbrev t_Tx_at_2 : List UInt8 := 180 :: 0 :: 65 :: t_Tx_at_5
abbrev t_Tx_at_1 : List UInt8 := 42 :: t_Tx_at_2
abbrev t_Tx_at_0 : List UInt8 := 27 :: t_Tx_at_1
theorem a_Tx_at_0 : dk_at b_Tx_at 0 t_Tx_at_0 := dk_start (by decide +kernel)
theorem a_Tx_at_1 : dk_at b_Tx_at 1 t_Tx_at_1 := dk_go 1 a_Tx_at_0 rfl
theorem a_Tx_at_2 : dk_at b_Tx_at 2 t_Tx_at_2 := dk_go 1 a_Tx_at_1 rfl
theorem a_Tx_at_5 : dk_at b_Tx_at 5 t_Tx_at_5 := dk_go 3 a_Tx_at_2 rfl
theorem a_Tx_at_8 : dk_at b_Tx_at 8 t_Tx_at_8 := dk_go 3 a_Tx_at_5 rfl
theorem a_Tx_at_9 : dk_at b_Tx_at 9 t_Tx_at_9 := dk_go 1 a_Tx_at_8 rfl
theorem a_Tx_at_12 : dk_at b_Tx_at 12 t_Tx_at_12 := dk_go 3 a_Tx_at_9 rfl
theorem a_Tx_at_13 : dk_at b_Tx_at 13 t_Tx_at_13 := dk_go 1 a_Tx_at_12 rfl
theorem a_Tx_at_14 : dk_at b_Tx_at 14 t_Tx_at_14 := dk_go 1 a_Tx_at_13 rfl
theorem a_Tx_at_17 : dk_at b_Tx_at 17 t_Tx_at_17 := dk_go 3 a_Tx_at_14 rfl
theorem a_Tx_at_18 : dk_at b_Tx_at 18 t_Tx_at_18 := dk_go 1 a_Tx_at_17 rfl
theorem d_Tx_at_0 : decode b_Tx_at 0 = .ok (.iload_n 1, 1) := dk_0 a_Tx_at_0 (dko_27 _)
theorem d_Tx_at_1 : decode b_Tx_at 1 = .ok (.aload_n 0, 1) := dk_0 a_Tx_at_1 (dko_42 _)
theorem d_Tx_at_2 : decode b_Tx_at 2 = .ok (.getfield 65, 3) := dk_U2 a_Tx_at_2 (dko_180 _) rfl
theorem d_Tx_at_5 : decode b_Tx_at 5 = .ok (.if_icmp .ge 12, 3) := dk_S2 a_Tx_at_5 (dko_162 _) (by decide +kernel)
theorem d_Tx_at_17 : decode b_Tx_at 17 = .ok (.iconst 0, 1) := dk_0 a_Tx_at_17 (dko_3 _)
theorem d_Tx_at_18 : decode b_Tx_at 18 = .ok (.ireturn, 1) := dk_0 a_Tx_at_18 (dko_172 _)
set_option maxHeartbeats 4000000 in
set_option maxRecDepth 100000 in
theorem c_Tx_at (l : Launch) (dC : Nat → ClassId) (dI : Nat → Nat → Nat) (cI cB cZ cJ : ClassId) (oT : Nat) (ft : List Value) (ht_size : fx ft 1 (.int 0)) (sz : Nat) : Met l y_Tx_at w_Tx_at ({ frames := 0, cells := 0, slots := 0, locals := 0 }) (va_Pc [.ref oT, .int 0] (PW dC dI cI cB cZ cJ [(oT, .inr (13, ft))] sz)) (va_Qi (fun (r : Int32) (_ : Unit) => r = 0) (fun _ _ => True) (va_A [] sz)) 0 0 (va_A [] sz) := by
  refine Met.ofW (cc := b_Tx_at) (maxL := 2) (ret := (some .int)) (by decide) rfl ?_
  intro p e s m args below meth c s₁ B hml hv
  obtain ⟨rfl, hsz, hP, hK, hD⟩ := hv
  have hx := B.exec
  have hb := B.bytes
  have hr := B.returns
  have hts := atoms_spec (ws := w_Tx_at) B.pre
  have hown : s.vm.findClass R_Tx = some m.cls := findClass_of_methodNamed B.named
  have hlocks := B.notSynchronized
  subst hsz
  generalize hAe : va_A [] s.heap.size = A at ⊢
  have hA : ∀ q : Nat, s.heap.size ≤ q → A q := fun q h => by rw [← hAe]; exact Or.inr h
  have hS : va_S A s.heap s.heap [] := va_S.rf
  have hP : va_P (dC, dI) classes [(oT, .inr (13, ft))] s.heap := hP
  have hl := lv_entry ([.ref oT, .int 0]) (n := 2) (Nat.le_of_ble_eq_true rfl)
  rw [lg_entry_eq]
  generalize (lg_sl ([.ref oT, .int 0]) ++ List.replicate (2 - (lg_sl ([.ref oT, .int 0])).length) Slot.unset).toArray = ls at hl ⊢
  have hl : lv_has ls 2 [(0, .ref oT), (1, .int 0)] := hl
  refine lv_iload_n hx hb d_Tx_at_0 rfl (lv_at hl 1 rfl) ?_
  refine lv_aload_n hx hb d_Tx_at_1 rfl (lv_at hl 0 rfl) ?_
  refine va_get (D := (dC, dI)) (ci := 13) (v := .int 0) (C := R_Tx) (T := F_Tx) (N := 39) hx hb hts (fun w h => List.mem_cons_of_mem _ (in_Tx w h)) hown hK.1 hP 0 rfl rfl 1 (by decide) (hts _ (List.mem_cons_of_mem _ mw_1580)) (fun _ h9 => h9) ht_size d_Tx_at_2 ?_
  refine lv_icmp_ge (tgt := 17) hx hb d_Tx_at_5 (by decide) (fun _ => ?_) (fun h => absurd (by decide) h)
  refine lv_iconst (v := 0) hx hb d_Tx_at_17 (by decide) ?_
  exact W.iret (v := 0) hx hb hr (fun t ht hW => ⟨⟨_, (), rfl, (rfl), trivial⟩, hS.F ht⟩) hS.2.2 d_Tx_at_18
abbrev t_Tx_go_388 : List UInt8 := 172 :: []
abbrev t_Tx_go_387 : List UInt8 := 4 :: t_Tx_go_388
abbrev t_Tx_go_384 : List UInt8 := 181 :: 0 :: 146 :: t_Tx_go_387
abbrev t_Tx_go_381 : List UInt8 := 17 :: 7 :: 208 :: t_Tx_go_384
abbrev t_Tx_go_378 : List UInt8 := 167 :: 0 :: 6 :: t_Tx_go_381
abbrev t_Tx_go_377 : List UInt8 := 96 :: t_Tx_go_378
abbrev t_Tx_go_374 : List UInt8 := 182 :: 0 :: 162 :: t_Tx_go_377
abbrev t_Tx_go_373 : List UInt8 := 42 :: t_Tx_go_374
abbrev t_Tx_go_370 : List UInt8 := 17 :: 3 :: 232 :: t_Tx_go_373
abbrev t_Tx_go_367 : List UInt8 := 153 :: 0 :: 14 :: t_Tx_go_370
abbrev t_Tx_go_364 : List UInt8 := 184 :: 0 :: 149 :: t_Tx_go_367
abbrev t_Tx_go_363 : List UInt8 := 27 :: t_Tx_go_364
abbrev t_Tx_go_362 : List UInt8 := 42 :: t_Tx_go_363
abbrev t_Tx_go_361 : List UInt8 := 172 :: t_Tx_go_362
abbrev t_Tx_go_360 : List UInt8 := 3 :: t_Tx_go_361
abbrev t_Tx_go_357 : List UInt8 := 181 :: 0 :: 159 :: t_Tx_go_360
abbrev t_Tx_go_354 : List UInt8 := 180 :: 0 :: 133 :: t_Tx_go_357
abbrev t_Tx_go_353 : List UInt8 := 42 :: t_Tx_go_354
abbrev t_Tx_go_352 : List UInt8 := 42 :: t_Tx_go_353
abbrev t_Tx_go_349 : List UInt8 := 160 :: 0 :: 13 :: t_Tx_go_352
abbrev t_Tx_go_347 : List UInt8 := 16 :: 46 :: t_Tx_go_349
abbrev t_Tx_go_346 : List UInt8 := 28 :: t_Tx_go_347
abbrev t_Tx_go_343 : List UInt8 := 154 :: 0 :: 9 :: t_Tx_go_346
abbrev t_Tx_go_340 : List UInt8 := 184 :: 0 :: 153 :: t_Tx_go_343
abbrev t_Tx_go_339 : List UInt8 := 28 :: t_Tx_go_340
abbrev t_Tx_go_336 : List UInt8 := 154 :: 0 :: 16 :: t_Tx_go_339
abbrev t_Tx_go_333 : List UInt8 := 184 :: 0 :: 149 :: t_Tx_go_336
abbrev t_Tx_go_332 : List UInt8 := 28 :: t_Tx_go_333
abbrev t_Tx_go_331 : List UInt8 := 61 :: t_Tx_go_332
abbrev t_Tx_go_328 : List UInt8 := 182 :: 0 :: 136 :: t_Tx_go_331
abbrev t_Tx_go_325 : List UInt8 := 180 :: 0 :: 133 :: t_Tx_go_328
abbrev t_Tx_go_324 : List UInt8 := 42 :: t_Tx_go_325
abbrev t_Tx_go_323 : List UInt8 := 42 :: t_Tx_go_324
abbrev t_Tx_go_320 : List UInt8 := 181 :: 0 :: 72 :: t_Tx_go_323
abbrev t_Tx_go_317 : List UInt8 := 180 :: 0 :: 133 :: t_Tx_go_320
abbrev t_Tx_go_316 : List UInt8 := 42 :: t_Tx_go_317
abbrev t_Tx_go_315 : List UInt8 := 42 :: t_Tx_go_316
abbrev t_Tx_go_314 : List UInt8 := 172 :: t_Tx_go_315
abbrev t_Tx_go_313 : List UInt8 := 28 :: t_Tx_go_314
abbrev t_Tx_go_310 : List UInt8 := 181 :: 0 :: 146 :: t_Tx_go_313
abbrev t_Tx_go_309 : List UInt8 := 27 :: t_Tx_go_310
abbrev t_Tx_go_308 : List UInt8 := 42 :: t_Tx_go_309
abbrev t_Tx_go_305 : List UInt8 := 181 :: 0 :: 72 :: t_Tx_go_308
abbrev t_Tx_go_302 : List UInt8 := 180 :: 0 :: 133 :: t_Tx_go_305
abbrev t_Tx_go_301 : List UInt8 := 42 :: t_Tx_go_302
abbrev t_Tx_go_300 : List UInt8 := 42 :: t_Tx_go_301
abbrev t_Tx_go_297 : List UInt8 := 181 :: 0 :: 133 :: t_Tx_go_300
abbrev t_Tx_go_296 : List UInt8 := 96 :: t_Tx_go_297
abbrev t_Tx_go_295 : List UInt8 := 4 :: t_Tx_go_296
abbrev t_Tx_go_292 : List UInt8 := 180 :: 0 :: 133 :: t_Tx_go_295
abbrev t_Tx_go_291 : List UInt8 := 89 :: t_Tx_go_292
abbrev t_Tx_go_290 : List UInt8 := 42 :: t_Tx_go_291
abbrev t_Tx_go_287 : List UInt8 := 181 :: 0 :: 159 :: t_Tx_go_290
abbrev t_Tx_go_284 : List UInt8 := 180 :: 0 :: 133 :: t_Tx_go_287
abbrev t_Tx_go_283 : List UInt8 := 42 :: t_Tx_go_284
abbrev t_Tx_go_280 : List UInt8 := 167 :: 0 :: 7 :: t_Tx_go_283
abbrev t_Tx_go_277 : List UInt8 := 180 :: 0 :: 159 :: t_Tx_go_280
abbrev t_Tx_go_276 : List UInt8 := 42 :: t_Tx_go_277
abbrev t_Tx_go_273 : List UInt8 := 153 :: 0 :: 10 :: t_Tx_go_276
abbrev t_Tx_go_272 : List UInt8 := 28 :: t_Tx_go_273
abbrev t_Tx_go_271 : List UInt8 := 42 :: t_Tx_go_272
abbrev t_Tx_go_270 : List UInt8 := 61 :: t_Tx_go_271
abbrev t_Tx_go_269 : List UInt8 := 3 :: t_Tx_go_270
abbrev t_Tx_go_266 : List UInt8 := 167 :: 0 :: 4 :: t_Tx_go_269
abbrev t_Tx_go_265 : List UInt8 := 4 :: t_Tx_go_266
abbrev t_Tx_go_262 : List UInt8 := 160 :: 0 :: 7 :: t_Tx_go_265
abbrev t_Tx_go_260 : List UInt8 := 16 :: 62 :: t_Tx_go_262
abbrev t_Tx_go_259 : List UInt8 := 27 :: t_Tx_go_260
abbrev t_Tx_go_256 : List UInt8 := 159 :: 0 :: 9 :: t_Tx_go_259
abbrev t_Tx_go_254 : List UInt8 := 16 :: 61 :: t_Tx_go_256
abbrev t_Tx_go_253 : List UInt8 := 27 :: t_Tx_go_254
abbrev t_Tx_go_250 : List UInt8 := 159 :: 0 :: 15 :: t_Tx_go_253
abbrev t_Tx_go_248 : List UInt8 := 16 :: 60 :: t_Tx_go_250
abbrev t_Tx_go_247 : List UInt8 := 27 :: t_Tx_go_248
abbrev t_Tx_go_244 : List UInt8 := 159 :: 0 :: 21 :: t_Tx_go_247
abbrev t_Tx_go_242 : List UInt8 := 16 :: 47 :: t_Tx_go_244
abbrev t_Tx_go_241 : List UInt8 := 27 :: t_Tx_go_242
abbrev t_Tx_go_238 : List UInt8 := 159 :: 0 :: 27 :: t_Tx_go_241
abbrev t_Tx_go_236 : List UInt8 := 16 :: 42 :: t_Tx_go_238
abbrev t_Tx_go_235 : List UInt8 := 27 :: t_Tx_go_236
abbrev t_Tx_go_232 : List UInt8 := 159 :: 0 :: 33 :: t_Tx_go_235
abbrev t_Tx_go_230 : List UInt8 := 16 :: 45 :: t_Tx_go_232
abbrev t_Tx_go_229 : List UInt8 := 27 :: t_Tx_go_230
abbrev t_Tx_go_226 : List UInt8 := 159 :: 0 :: 39 :: t_Tx_go_229
abbrev t_Tx_go_224 : List UInt8 := 16 :: 43 :: t_Tx_go_226
abbrev t_Tx_go_223 : List UInt8 := 27 :: t_Tx_go_224
abbrev t_Tx_go_220 : List UInt8 := 159 :: 0 :: 45 :: t_Tx_go_223
abbrev t_Tx_go_218 : List UInt8 := 16 :: 59 :: t_Tx_go_220
abbrev t_Tx_go_217 : List UInt8 := 27 :: t_Tx_go_218
abbrev t_Tx_go_214 : List UInt8 := 159 :: 0 :: 51 :: t_Tx_go_217
abbrev t_Tx_go_212 : List UInt8 := 16 :: 41 :: t_Tx_go_214
abbrev t_Tx_go_211 : List UInt8 := 27 :: t_Tx_go_212
abbrev t_Tx_go_208 : List UInt8 := 159 :: 0 :: 57 :: t_Tx_go_211
abbrev t_Tx_go_206 : List UInt8 := 16 :: 40 :: t_Tx_go_208
abbrev t_Tx_go_205 : List UInt8 := 27 :: t_Tx_go_206
abbrev t_Tx_go_202 : List UInt8 := 159 :: 0 :: 63 :: t_Tx_go_205
abbrev t_Tx_go_200 : List UInt8 := 16 :: 125 :: t_Tx_go_202
abbrev t_Tx_go_199 : List UInt8 := 27 :: t_Tx_go_200
abbrev t_Tx_go_196 : List UInt8 := 159 :: 0 :: 69 :: t_Tx_go_199
abbrev t_Tx_go_194 : List UInt8 := 16 :: 123 :: t_Tx_go_196
abbrev t_Tx_go_193 : List UInt8 := 27 :: t_Tx_go_194
abbrev t_Tx_go_190 : List UInt8 := 167 :: 0 :: 125 :: t_Tx_go_193
abbrev t_Tx_go_187 : List UInt8 := 182 :: 0 :: 156 :: t_Tx_go_190
abbrev t_Tx_go_186 : List UInt8 := 42 :: t_Tx_go_187
abbrev t_Tx_go_183 : List UInt8 := 153 :: 0 :: 10 :: t_Tx_go_186
abbrev t_Tx_go_180 : List UInt8 := 184 :: 0 :: 153 :: t_Tx_go_183
abbrev t_Tx_go_179 : List UInt8 := 27 :: t_Tx_go_180
abbrev t_Tx_go_176 : List UInt8 := 167 :: 255 :: 204 :: t_Tx_go_179
abbrev t_Tx_go_173 : List UInt8 := 181 :: 0 :: 133 :: t_Tx_go_176
abbrev t_Tx_go_172 : List UInt8 := 96 :: t_Tx_go_173
abbrev t_Tx_go_171 : List UInt8 := 4 :: t_Tx_go_172
abbrev t_Tx_go_168 : List UInt8 := 180 :: 0 :: 133 :: t_Tx_go_171
abbrev t_Tx_go_167 : List UInt8 := 89 :: t_Tx_go_168
abbrev t_Tx_go_166 : List UInt8 := 42 :: t_Tx_go_167
abbrev t_Tx_go_163 : List UInt8 := 162 :: 0 :: 152 :: t_Tx_go_166
abbrev t_Tx_go_161 : List UInt8 := 16 :: 12 :: t_Tx_go_163
abbrev t_Tx_go_160 : List UInt8 := 100 :: t_Tx_go_161
abbrev t_Tx_go_157 : List UInt8 := 180 :: 0 :: 69 :: t_Tx_go_160
abbrev t_Tx_go_156 : List UInt8 := 42 :: t_Tx_go_157
abbrev t_Tx_go_153 : List UInt8 := 180 :: 0 :: 133 :: t_Tx_go_156
abbrev t_Tx_go_152 : List UInt8 := 42 :: t_Tx_go_153
abbrev t_Tx_go_149 : List UInt8 := 153 :: 0 :: 166 :: t_Tx_go_152
abbrev t_Tx_go_146 : List UInt8 := 184 :: 0 :: 153 :: t_Tx_go_149
abbrev t_Tx_go_143 : List UInt8 := 182 :: 0 :: 136 :: t_Tx_go_146
abbrev t_Tx_go_140 : List UInt8 := 180 :: 0 :: 133 :: t_Tx_go_143
abbrev t_Tx_go_139 : List UInt8 := 42 :: t_Tx_go_140
abbrev t_Tx_go_138 : List UInt8 := 42 :: t_Tx_go_139
abbrev t_Tx_go_135 : List UInt8 := 154 :: 0 :: 17 :: t_Tx_go_138
abbrev t_Tx_go_132 : List UInt8 := 184 :: 0 :: 149 :: t_Tx_go_135
abbrev t_Tx_go_129 : List UInt8 := 182 :: 0 :: 136 :: t_Tx_go_132
abbrev t_Tx_go_126 : List UInt8 := 180 :: 0 :: 133 :: t_Tx_go_129
abbrev t_Tx_go_125 : List UInt8 := 42 :: t_Tx_go_126
abbrev t_Tx_go_124 : List UInt8 := 42 :: t_Tx_go_125
abbrev t_Tx_go_121 : List UInt8 := 153 :: 0 :: 58 :: t_Tx_go_124
abbrev t_Tx_go_118 : List UInt8 := 184 :: 0 :: 149 :: t_Tx_go_121
abbrev t_Tx_go_117 : List UInt8 := 27 :: t_Tx_go_118
abbrev t_Tx_go_116 : List UInt8 := 172 :: t_Tx_go_117
abbrev t_Tx_go_115 : List UInt8 := 4 :: t_Tx_go_116
abbrev t_Tx_go_112 : List UInt8 := 181 :: 0 :: 146 :: t_Tx_go_115
abbrev t_Tx_go_111 : List UInt8 := 4 :: t_Tx_go_112
abbrev t_Tx_go_110 : List UInt8 := 42 :: t_Tx_go_111
abbrev t_Tx_go_107 : List UInt8 := 181 :: 0 :: 72 :: t_Tx_go_110
abbrev t_Tx_go_104 : List UInt8 := 180 :: 0 :: 133 :: t_Tx_go_107
abbrev t_Tx_go_103 : List UInt8 := 42 :: t_Tx_go_104
abbrev t_Tx_go_102 : List UInt8 := 42 :: t_Tx_go_103
abbrev t_Tx_go_99 : List UInt8 := 160 :: 0 :: 18 :: t_Tx_go_102
abbrev t_Tx_go_96 : List UInt8 := 180 :: 0 :: 65 :: t_Tx_go_99
abbrev t_Tx_go_95 : List UInt8 := 42 :: t_Tx_go_96
abbrev t_Tx_go_92 : List UInt8 := 180 :: 0 :: 133 :: t_Tx_go_95
abbrev t_Tx_go_91 : List UInt8 := 42 :: t_Tx_go_92
abbrev t_Tx_go_90 : List UInt8 := 60 :: t_Tx_go_91
abbrev t_Tx_go_87 : List UInt8 := 182 :: 0 :: 136 :: t_Tx_go_90
abbrev t_Tx_go_84 : List UInt8 := 180 :: 0 :: 133 :: t_Tx_go_87
abbrev t_Tx_go_83 : List UInt8 := 42 :: t_Tx_go_84
abbrev t_Tx_go_82 : List UInt8 := 42 :: t_Tx_go_83
abbrev t_Tx_go_79 : List UInt8 := 181 :: 0 :: 143 :: t_Tx_go_82
abbrev t_Tx_go_76 : List UInt8 := 180 :: 0 :: 140 :: t_Tx_go_79
abbrev t_Tx_go_75 : List UInt8 := 42 :: t_Tx_go_76
abbrev t_Tx_go_74 : List UInt8 := 42 :: t_Tx_go_75
abbrev t_Tx_go_71 : List UInt8 := 181 :: 0 :: 69 :: t_Tx_go_74
abbrev t_Tx_go_68 : List UInt8 := 180 :: 0 :: 133 :: t_Tx_go_71
abbrev t_Tx_go_67 : List UInt8 := 42 :: t_Tx_go_68
abbrev t_Tx_go_66 : List UInt8 := 42 :: t_Tx_go_67
abbrev t_Tx_go_63 : List UInt8 := 167 :: 255 :: 193 :: t_Tx_go_66
abbrev t_Tx_go_60 : List UInt8 := 181 :: 0 :: 133 :: t_Tx_go_63
abbrev t_Tx_go_59 : List UInt8 := 96 :: t_Tx_go_60
abbrev t_Tx_go_58 : List UInt8 := 4 :: t_Tx_go_59
abbrev t_Tx_go_55 : List UInt8 := 180 :: 0 :: 133 :: t_Tx_go_58
abbrev t_Tx_go_54 : List UInt8 := 89 :: t_Tx_go_55
abbrev t_Tx_go_53 : List UInt8 := 42 :: t_Tx_go_54
abbrev t_Tx_go_50 : List UInt8 := 181 :: 0 :: 140 :: t_Tx_go_53
abbrev t_Tx_go_49 : List UInt8 := 96 :: t_Tx_go_50
abbrev t_Tx_go_48 : List UInt8 := 3 :: t_Tx_go_49
abbrev t_Tx_go_45 : List UInt8 := 167 :: 0 :: 4 :: t_Tx_go_48
abbrev t_Tx_go_44 : List UInt8 := 4 :: t_Tx_go_45
abbrev t_Tx_go_41 : List UInt8 := 160 :: 0 :: 7 :: t_Tx_go_44
abbrev t_Tx_go_39 : List UInt8 := 16 :: 10 :: t_Tx_go_41
abbrev t_Tx_go_36 : List UInt8 := 182 :: 0 :: 136 :: t_Tx_go_39
abbrev t_Tx_go_33 : List UInt8 := 180 :: 0 :: 133 :: t_Tx_go_36
abbrev t_Tx_go_32 : List UInt8 := 42 :: t_Tx_go_33
abbrev t_Tx_go_31 : List UInt8 := 42 :: t_Tx_go_32
abbrev t_Tx_go_28 : List UInt8 := 180 :: 0 :: 140 :: t_Tx_go_31
abbrev t_Tx_go_27 : List UInt8 := 89 :: t_Tx_go_28
abbrev t_Tx_go_26 : List UInt8 := 42 :: t_Tx_go_27
abbrev t_Tx_go_23 : List UInt8 := 160 :: 0 :: 43 :: t_Tx_go_26
abbrev t_Tx_go_21 : List UInt8 := 16 :: 10 :: t_Tx_go_23
abbrev t_Tx_go_18 : List UInt8 := 182 :: 0 :: 136 :: t_Tx_go_21
abbrev t_Tx_go_15 : List UInt8 := 180 :: 0 :: 133 :: t_Tx_go_18
abbrev t_Tx_go_14 : List UInt8 := 42 :: t_Tx_go_15
abbrev t_Tx_go_13 : List UInt8 := 42 :: t_Tx_go_14
abbrev t_Tx_go_10 : List UInt8 := 159 :: 0 :: 16 :: t_Tx_go_13
abbrev t_Tx_go_8 : List UInt8 := 16 :: 32 :: t_Tx_go_10
abbrev t_Tx_go_5 : List UInt8 := 182 :: 0 :: 136 :: t_Tx_go_8
abbrev t_Tx_go_2 : List UInt8 := 180 :: 0 :: 133 :: t_Tx_go_5
abbrev t_Tx_go_1 : List UInt8 := 42 :: t_Tx_go_2
abbrev t_Tx_go_0 : List UInt8 := 42 :: t_Tx_go_1
theorem a_Tx_go_0 : dk_at b_Tx_go 0 t_Tx_go_0 := dk_start (by decide +kernel)
theorem a_Tx_go_1 : dk_at b_Tx_go 1 t_Tx_go_1 := dk_go 1 a_Tx_go_0 rfl
theorem a_Tx_go_2 : dk_at b_Tx_go 2 t_Tx_go_2 := dk_go 1 a_Tx_go_1 rfl
theorem a_Tx_go_5 : dk_at b_Tx_go 5 t_Tx_go_5 := dk_go 3 a_Tx_go_2 rfl
theorem a_Tx_go_8 : dk_at b_Tx_go 8 t_Tx_go_8 := dk_go 3 a_Tx_go_5 rfl
theorem a_Tx_go_10 : dk_at b_Tx_go 10 t_Tx_go_10 := dk_go 2 a_Tx_go_8 rfl
theorem a_Tx_go_13 : dk_at b_Tx_go 13 t_Tx_go_13 := dk_go 3 a_Tx_go_10 rfl
theorem a_Tx_go_14 : dk_at b_Tx_go 14 t_Tx_go_14 := dk_go 1 a_Tx_go_13 rfl
theorem a_Tx_go_15 : dk_at b_Tx_go 15 t_Tx_go_15 := dk_go 1 a_Tx_go_14 rfl
theorem a_Tx_go_18 : dk_at b_Tx_go 18 t_Tx_go_18 := dk_go 3 a_Tx_go_15 rfl
theorem a_Tx_go_21 : dk_at b_Tx_go 21 t_Tx_go_21 := dk_go 3 a_Tx_go_18 rfl
theorem a_Tx_go_23 : dk_at b_Tx_go 23 t_Tx_go_23 := dk_go 2 a_Tx_go_21 rfl
theorem a_Tx_go_26 : dk_at b_Tx_go 26 t_Tx_go_26 := dk_go 3 a_Tx_go_23 rfl
theorem a_Tx_go_27 : dk_at b_Tx_go 27 t_Tx_go_27 := dk_go 1 a_Tx_go_26 rfl
theorem a_Tx_go_28 : dk_at b_Tx_go 28 t_Tx_go_28 := dk_go 1 a_Tx_go_27 rfl
theorem a_Tx_go_31 : dk_at b_Tx_go 31 t_Tx_go_31 := dk_go 3 a_Tx_go_28 rfl
theorem a_Tx_go_32 : dk_at b_Tx_go 32 t_Tx_go_32 := dk_go 1 a_Tx_go_31 rfl
theorem a_Tx_go_33 : dk_at b_Tx_go 33 t_Tx_go_33 := dk_go 1 a_Tx_go_32 rfl
theorem a_Tx_go_36 : dk_at b_Tx_go 36 t_Tx_go_36 := dk_go 3 a_Tx_go_33 rfl
theorem a_Tx_go_39 : dk_at b_Tx_go 39 t_Tx_go_39 := dk_go 3 a_Tx_go_36 rfl
theorem a_Tx_go_41 : dk_at b_Tx_go 41 t_Tx_go_41 := dk_go 2 a_Tx_go_39 rfl
theorem a_Tx_go_44 : dk_at b_Tx_go 44 t_Tx_go_44 := dk_go 3 a_Tx_go_41 rfl
theorem a_Tx_go_45 : dk_at b_Tx_go 45 t_Tx_go_45 := dk_go 1 a_Tx_go_44 rfl
theorem a_Tx_go_48 : dk_at b_Tx_go 48 t_Tx_go_48 := dk_go 3 a_Tx_go_45 rfl
theorem a_Tx_go_49 : dk_at b_Tx_go 49 t_Tx_go_49 := dk_go 1 a_Tx_go_48 rfl
theorem a_Tx_go_50 : dk_at b_Tx_go 50 t_Tx_go_50 := dk_go 1 a_Tx_go_49 rfl
theorem a_Tx_go_53 : dk_at b_Tx_go 53 t_Tx_go_53 := dk_go 3 a_Tx_go_50 rfl
theorem a_Tx_go_54 : dk_at b_Tx_go 54 t_Tx_go_54 := dk_go 1 a_Tx_go_53 rfl
theorem a_Tx_go_55 : dk_at b_Tx_go 55 t_Tx_go_55 := dk_go 1 a_Tx_go_54 rfl
theorem a_Tx_go_58 : dk_at b_Tx_go 58 t_Tx_go_58 := dk_go 3 a_Tx_go_55 rfl
theorem a_Tx_go_59 : dk_at b_Tx_go 59 t_Tx_go_59 := dk_go 1 a_Tx_go_58 rfl
theorem a_Tx_go_60 : dk_at b_Tx_go 60 t_Tx_go_60 := dk_go 1 a_Tx_go_59 rfl
theorem a_Tx_go_63 : dk_at b_Tx_go 63 t_Tx_go_63 := dk_go 3 a_Tx_go_60 rfl
theorem a_Tx_go_66 : dk_at b_Tx_go 66 t_Tx_go_66 := dk_go 3 a_Tx_go_63 rfl
theorem a_Tx_go_67 : dk_at b_Tx_go 67 t_Tx_go_67 := dk_go 1 a_Tx_go_66 rfl
theorem a_Tx_go_68 : dk_at b_Tx_go 68 t_Tx_go_68 := dk_go 1 a_Tx_go_67 rfl
theorem a_Tx_go_71 : dk_at b_Tx_go 71 t_Tx_go_71 := dk_go 3 a_Tx_go_68 rfl
theorem a_Tx_go_74 : dk_at b_Tx_go 74 t_Tx_go_74 := dk_go 3 a_Tx_go_71 rfl
theorem a_Tx_go_75 : dk_at b_Tx_go 75 t_Tx_go_75 := dk_go 1 a_Tx_go_74 rfl
theorem a_Tx_go_76 : dk_at b_Tx_go 76 t_Tx_go_76 := dk_go 1 a_Tx_go_75 rfl
theorem a_Tx_go_79 : dk_at b_Tx_go 79 t_Tx_go_79 := dk_go 3 a_Tx_go_76 rfl
theorem a_Tx_go_82 : dk_at b_Tx_go 82 t_Tx_go_82 := dk_go 3 a_Tx_go_79 rfl
theorem a_Tx_go_83 : dk_at b_Tx_go 83 t_Tx_go_83 := dk_go 1 a_Tx_go_82 rfl
theorem a_Tx_go_84 : dk_at b_Tx_go 84 t_Tx_go_84 := dk_go 1 a_Tx_go_83 rfl
theorem a_Tx_go_87 : dk_at b_Tx_go 87 t_Tx_go_87 := dk_go 3 a_Tx_go_84 rfl
theorem a_Tx_go_90 : dk_at b_Tx_go 90 t_Tx_go_90 := dk_go 3 a_Tx_go_87 rfl
theorem a_Tx_go_91 : dk_at b_Tx_go 91 t_Tx_go_91 := dk_go 1 a_Tx_go_90 rfl
theorem a_Tx_go_92 : dk_at b_Tx_go 92 t_Tx_go_92 := dk_go 1 a_Tx_go_91 rfl
theorem a_Tx_go_95 : dk_at b_Tx_go 95 t_Tx_go_95 := dk_go 3 a_Tx_go_92 rfl
theorem a_Tx_go_96 : dk_at b_Tx_go 96 t_Tx_go_96 := dk_go 1 a_Tx_go_95 rfl
theorem a_Tx_go_99 : dk_at b_Tx_go 99 t_Tx_go_99 := dk_go 3 a_Tx_go_96 rfl
theorem a_Tx_go_102 : dk_at b_Tx_go 102 t_Tx_go_102 := dk_go 3 a_Tx_go_99 rfl
theorem a_Tx_go_103 : dk_at b_Tx_go 103 t_Tx_go_103 := dk_go 1 a_Tx_go_102 rfl
theorem a_Tx_go_104 : dk_at b_Tx_go 104 t_Tx_go_104 := dk_go 1 a_Tx_go_103 rfl
theorem a_Tx_go_107 : dk_at b_Tx_go 107 t_Tx_go_107 := dk_go 3 a_Tx_go_104 rfl
theorem a_Tx_go_110 : dk_at b_Tx_go 110 t_Tx_go_110 := dk_go 3 a_Tx_go_107 rfl
theorem a_Tx_go_111 : dk_at b_Tx_go 111 t_Tx_go_111 := dk_go 1 a_Tx_go_110 rfl
theorem a_Tx_go_112 : dk_at b_Tx_go 112 t_Tx_go_112 := dk_go 1 a_Tx_go_111 rfl
theorem a_Tx_go_115 : dk_at b_Tx_go 115 t_Tx_go_115 := dk_go 3 a_Tx_go_112 rfl
theorem a_Tx_go_116 : dk_at b_Tx_go 116 t_Tx_go_116 := dk_go 1 a_Tx_go_115 rfl
theorem a_Tx_go_117 : dk_at b_Tx_go 117 t_Tx_go_117 := dk_go 1 a_Tx_go_116 rfl
theorem a_Tx_go_118 : dk_at b_Tx_go 118 t_Tx_go_118 := dk_go 1 a_Tx_go_117 rfl
theorem a_Tx_go_121 : dk_at b_Tx_go 121 t_Tx_go_121 := dk_go 3 a_Tx_go_118 rfl
theorem a_Tx_go_124 : dk_at b_Tx_go 124 t_Tx_go_124 := dk_go 3 a_Tx_go_121 rfl
theorem a_Tx_go_125 : dk_at b_Tx_go 125 t_Tx_go_125 := dk_go 1 a_Tx_go_124 rfl
theorem a_Tx_go_126 : dk_at b_Tx_go 126 t_Tx_go_126 := dk_go 1 a_Tx_go_125 rfl
theorem a_Tx_go_129 : dk_at b_Tx_go 129 t_Tx_go_129 := dk_go 3 a_Tx_go_126 rfl
theorem a_Tx_go_132 : dk_at b_Tx_go 132 t_Tx_go_132 := dk_go 3 a_Tx_go_129 rfl
theorem a_Tx_go_135 : dk_at b_Tx_go 135 t_Tx_go_135 := dk_go 3 a_Tx_go_132 rfl
theorem a_Tx_go_138 : dk_at b_Tx_go 138 t_Tx_go_138 := dk_go 3 a_Tx_go_135 rfl
theorem a_Tx_go_139 : dk_at b_Tx_go 139 t_Tx_go_139 := dk_go 1 a_Tx_go_138 rfl
theorem a_Tx_go_140 : dk_at b_Tx_go 140 t_Tx_go_140 := dk_go 1 a_Tx_go_139 rfl
theorem a_Tx_go_143 : dk_at b_Tx_go 143 t_Tx_go_143 := dk_go 3 a_Tx_go_140 rfl
theorem a_Tx_go_146 : dk_at b_Tx_go 146 t_Tx_go_146 := dk_go 3 a_Tx_go_143 rfl
theorem a_Tx_go_149 : dk_at b_Tx_go 149 t_Tx_go_149 := dk_go 3 a_Tx_go_146 rfl
theorem a_Tx_go_152 : dk_at b_Tx_go 152 t_Tx_go_152 := dk_go 3 a_Tx_go_149 rfl
theorem a_Tx_go_153 : dk_at b_Tx_go 153 t_Tx_go_153 := dk_go 1 a_Tx_go_152 rfl
theorem a_Tx_go_156 : dk_at b_Tx_go 156 t_Tx_go_156 := dk_go 3 a_Tx_go_153 rfl
theorem a_Tx_go_157 : dk_at b_Tx_go 157 t_Tx_go_157 := dk_go 1 a_Tx_go_156 rfl
theorem a_Tx_go_160 : dk_at b_Tx_go 160 t_Tx_go_160 := dk_go 3 a_Tx_go_157 rfl
theorem a_Tx_go_161 : dk_at b_Tx_go 161 t_Tx_go_161 := dk_go 1 a_Tx_go_160 rfl
theorem a_Tx_go_163 : dk_at b_Tx_go 163 t_Tx_go_163 := dk_go 2 a_Tx_go_161 rfl
theorem a_Tx_go_166 : dk_at b_Tx_go 166 t_Tx_go_166 := dk_go 3 a_Tx_go_163 rfl
theorem a_Tx_go_167 : dk_at b_Tx_go 167 t_Tx_go_167 := dk_go 1 a_Tx_go_166 rfl
theorem a_Tx_go_168 : dk_at b_Tx_go 168 t_Tx_go_168 := dk_go 1 a_Tx_go_167 rfl
theorem a_Tx_go_171 : dk_at b_Tx_go 171 t_Tx_go_171 := dk_go 3 a_Tx_go_168 rfl
theorem a_Tx_go_172 : dk_at b_Tx_go 172 t_Tx_go_172 := dk_go 1 a_Tx_go_171 rfl
theorem a_Tx_go_173 : dk_at b_Tx_go 173 t_Tx_go_173 := dk_go 1 a_Tx_go_172 rfl
theorem a_Tx_go_176 : dk_at b_Tx_go 176 t_Tx_go_176 := dk_go 3 a_Tx_go_173 rfl
theorem a_Tx_go_179 : dk_at b_Tx_go 179 t_Tx_go_179 := dk_go 3 a_Tx_go_176 rfl
theorem a_Tx_go_180 : dk_at b_Tx_go 180 t_Tx_go_180 := dk_go 1 a_Tx_go_179 rfl
theorem a_Tx_go_183 : dk_at b_Tx_go 183 t_Tx_go_183 := dk_go 3 a_Tx_go_180 rfl
theorem a_Tx_go_186 : dk_at b_Tx_go 186 t_Tx_go_186 := dk_go 3 a_Tx_go_183 rfl
theorem a_Tx_go_187 : dk_at b_Tx_go 187 t_Tx_go_187 := dk_go 1 a_Tx_go_186 rfl
theorem a_Tx_go_190 : dk_at b_Tx_go 190 t_Tx_go_190 := dk_go 3 a_Tx_go_187 rfl
theorem a_Tx_go_193 : dk_at b_Tx_go 193 t_Tx_go_193 := dk_go 3 a_Tx_go_190 rfl
theorem a_Tx_go_194 : dk_at b_Tx_go 194 t_Tx_go_194 := dk_go 1 a_Tx_go_193 rfl
theorem a_Tx_go_196 : dk_at b_Tx_go 196 t_Tx_go_196 := dk_go 2 a_Tx_go_194 rfl
theorem a_Tx_go_199 : dk_at b_Tx_go 199 t_Tx_go_199 := dk_go 3 a_Tx_go_196 rfl
theorem a_Tx_go_200 : dk_at b_Tx_go 200 t_Tx_go_200 := dk_go 1 a_Tx_go_199 rfl
theorem a_Tx_go_202 : dk_at b_Tx_go 202 t_Tx_go_202 := dk_go 2 a_Tx_go_200 rfl
theorem a_Tx_go_205 : dk_at b_Tx_go 205 t_Tx_go_205 := dk_go 3 a_Tx_go_202 rfl
theorem a_Tx_go_206 : dk_at b_Tx_go 206 t_Tx_go_206 := dk_go 1 a_Tx_go_205 rfl
theorem a_Tx_go_208 : dk_at b_Tx_go 208 t_Tx_go_208 := dk_go 2 a_Tx_go_206 rfl
theorem a_Tx_go_211 : dk_at b_Tx_go 211 t_Tx_go_211 := dk_go 3 a_Tx_go_208 rfl
theorem a_Tx_go_212 : dk_at b_Tx_go 212 t_Tx_go_212 := dk_go 1 a_Tx_go_211 rfl
theorem a_Tx_go_214 : dk_at b_Tx_go 214 t_Tx_go_214 := dk_go 2 a_Tx_go_212 rfl
theorem a_Tx_go_217 : dk_at b_Tx_go 217 t_Tx_go_217 := dk_go 3 a_Tx_go_214 rfl
theorem a_Tx_go_218 : dk_at b_Tx_go 218 t_Tx_go_218 := dk_go 1 a_Tx_go_217 rfl
theorem a_Tx_go_220 : dk_at b_Tx_go 220 t_Tx_go_220 := dk_go 2 a_Tx_go_218 rfl
theorem a_Tx_go_223 : dk_at b_Tx_go 223 t_Tx_go_223 := dk_go 3 a_Tx_go_220 rfl
theorem a_Tx_go_224 : dk_at b_Tx_go 224 t_Tx_go_224 := dk_go 1 a_Tx_go_223 rfl
theorem a_Tx_go_226 : dk_at b_Tx_go 226 t_Tx_go_226 := dk_go 2 a_Tx_go_224 rfl
theorem a_Tx_go_229 : dk_at b_Tx_go 229 t_Tx_go_229 := dk_go 3 a_Tx_go_226 rfl
theorem a_Tx_go_230 : dk_at b_Tx_go 230 t_Tx_go_230 := dk_go 1 a_Tx_go_229 rfl
theorem a_Tx_go_232 : dk_at b_Tx_go 232 t_Tx_go_232 := dk_go 2 a_Tx_go_230 rfl
theorem a_Tx_go_235 : dk_at b_Tx_go 235 t_Tx_go_235 := dk_go 3 a_Tx_go_232 rfl
theorem a_Tx_go_236 : dk_at b_Tx_go 236 t_Tx_go_236 := dk_go 1 a_Tx_go_235 rfl
theorem a_Tx_go_238 : dk_at b_Tx_go 238 t_Tx_go_238 := dk_go 2 a_Tx_go_236 rfl
theorem a_Tx_go_241 : dk_at b_Tx_go 241 t_Tx_go_241 := dk_go 3 a_Tx_go_238 rfl
theorem a_Tx_go_242 : dk_at b_Tx_go 242 t_Tx_go_242 := dk_go 1 a_Tx_go_241 rfl
theorem a_Tx_go_244 : dk_at b_Tx_go 244 t_Tx_go_244 := dk_go 2 a_Tx_go_242 rfl
theorem a_Tx_go_247 : dk_at b_Tx_go 247 t_Tx_go_247 := dk_go 3 a_Tx_go_244 rfl
theorem a_Tx_go_248 : dk_at b_Tx_go 248 t_Tx_go_248 := dk_go 1 a_Tx_go_247 rfl
theorem a_Tx_go_250 : dk_at b_Tx_go 250 t_Tx_go_250 := dk_go 2 a_Tx_go_248 rfl
theorem a_Tx_go_253 : dk_at b_Tx_go 253 t_Tx_go_253 := dk_go 3 a_Tx_go_250 rfl
theorem a_Tx_go_254 : dk_at b_Tx_go 254 t_Tx_go_254 := dk_go 1 a_Tx_go_253 rfl
theorem a_Tx_go_256 : dk_at b_Tx_go 256 t_Tx_go_256 := dk_go 2 a_Tx_go_254 rfl
theorem a_Tx_go_259 : dk_at b_Tx_go 259 t_Tx_go_259 := dk_go 3 a_Tx_go_256 rfl
theorem a_Tx_go_260 : dk_at b_Tx_go 260 t_Tx_go_260 := dk_go 1 a_Tx_go_259 rfl
theorem a_Tx_go_262 : dk_at b_Tx_go 262 t_Tx_go_262 := dk_go 2 a_Tx_go_260 rfl
theorem a_Tx_go_265 : dk_at b_Tx_go 265 t_Tx_go_265 := dk_go 3 a_Tx_go_262 rfl
theorem a_Tx_go_266 : dk_at b_Tx_go 266 t_Tx_go_266 := dk_go 1 a_Tx_go_265 rfl
theorem a_Tx_go_269 : dk_at b_Tx_go 269 t_Tx_go_269 := dk_go 3 a_Tx_go_266 rfl
theorem a_Tx_go_270 : dk_at b_Tx_go 270 t_Tx_go_270 := dk_go 1 a_Tx_go_269 rfl
theorem a_Tx_go_271 : dk_at b_Tx_go 271 t_Tx_go_271 := dk_go 1 a_Tx_go_270 rfl
theorem a_Tx_go_272 : dk_at b_Tx_go 272 t_Tx_go_272 := dk_go 1 a_Tx_go_271 rfl
theorem a_Tx_go_273 : dk_at b_Tx_go 273 t_Tx_go_273 := dk_go 1 a_Tx_go_272 rfl
theorem a_Tx_go_276 : dk_at b_Tx_go 276 t_Tx_go_276 := dk_go 3 a_Tx_go_273 rfl
theorem a_Tx_go_277 : dk_at b_Tx_go 277 t_Tx_go_277 := dk_go 1 a_Tx_go_276 rfl
theorem a_Tx_go_280 : dk_at b_Tx_go 280 t_Tx_go_280 := dk_go 3 a_Tx_go_277 rfl
theorem a_Tx_go_283 : dk_at b_Tx_go 283 t_Tx_go_283 := dk_go 3 a_Tx_go_280 rfl
theorem a_Tx_go_284 : dk_at b_Tx_go 284 t_Tx_go_284 := dk_go 1 a_Tx_go_283 rfl
theorem a_Tx_go_287 : dk_at b_Tx_go 287 t_Tx_go_287 := dk_go 3 a_Tx_go_284 rfl
theorem a_Tx_go_290 : dk_at b_Tx_go 290 t_Tx_go_290 := dk_go 3 a_Tx_go_287 rfl
theorem a_Tx_go_291 : dk_at b_Tx_go 291 t_Tx_go_291 := dk_go 1 a_Tx_go_290 rfl
theorem a_Tx_go_292 : dk_at b_Tx_go 292 t_Tx_go_292 := dk_go 1 a_Tx_go_291 rfl
theorem a_Tx_go_295 : dk_at b_Tx_go 295 t_Tx_go_295 := dk_go 3 a_Tx_go_292 rfl
theorem a_Tx_go_296 : dk_at b_Tx_go 296 t_Tx_go_296 := dk_go 1 a_Tx_go_295 rfl
theorem a_Tx_go_297 : dk_at b_Tx_go 297 t_Tx_go_297 := dk_go 1 a_Tx_go_296 rfl
theorem a_Tx_go_300 : dk_at b_Tx_go 300 t_Tx_go_300 := dk_go 3 a_Tx_go_297 rfl
theorem a_Tx_go_301 : dk_at b_Tx_go 301 t_Tx_go_301 := dk_go 1 a_Tx_go_300 rfl
theorem a_Tx_go_302 : dk_at b_Tx_go 302 t_Tx_go_302 := dk_go 1 a_Tx_go_301 rfl
theorem a_Tx_go_305 : dk_at b_Tx_go 305 t_Tx_go_305 := dk_go 3 a_Tx_go_302 rfl
theorem a_Tx_go_308 : dk_at b_Tx_go 308 t_Tx_go_308 := dk_go 3 a_Tx_go_305 rfl
theorem a_Tx_go_309 : dk_at b_Tx_go 309 t_Tx_go_309 := dk_go 1 a_Tx_go_308 rfl
theorem a_Tx_go_310 : dk_at b_Tx_go 310 t_Tx_go_310 := dk_go 1 a_Tx_go_309 rfl
theorem a_Tx_go_313 : dk_at b_Tx_go 313 t_Tx_go_313 := dk_go 3 a_Tx_go_310 rfl
theorem a_Tx_go_314 : dk_at b_Tx_go 314 t_Tx_go_314 := dk_go 1 a_Tx_go_313 rfl
theorem a_Tx_go_315 : dk_at b_Tx_go 315 t_Tx_go_315 := dk_go 1 a_Tx_go_314 rfl
theorem a_Tx_go_316 : dk_at b_Tx_go 316 t_Tx_go_316 := dk_go 1 a_Tx_go_315 rfl
theorem a_Tx_go_317 : dk_at b_Tx_go 317 t_Tx_go_317 := dk_go 1 a_Tx_go_316 rfl
theorem a_Tx_go_320 : dk_at b_Tx_go 320 t_Tx_go_320 := dk_go 3 a_Tx_go_317 rfl
theorem a_Tx_go_323 : dk_at b_Tx_go 323 t_Tx_go_323 := dk_go 3 a_Tx_go_320 rfl
theorem a_Tx_go_324 : dk_at b_Tx_go 324 t_Tx_go_324 := dk_go 1 a_Tx_go_323 rfl
theorem a_Tx_go_325 : dk_at b_Tx_go 325 t_Tx_go_325 := dk_go 1 a_Tx_go_324 rfl
theorem a_Tx_go_328 : dk_at b_Tx_go 328 t_Tx_go_328 := dk_go 3 a_Tx_go_325 rfl
theorem a_Tx_go_331 : dk_at b_Tx_go 331 t_Tx_go_331 := dk_go 3 a_Tx_go_328 rfl
theorem a_Tx_go_332 : dk_at b_Tx_go 332 t_Tx_go_332 := dk_go 1 a_Tx_go_331 rfl
theorem a_Tx_go_333 : dk_at b_Tx_go 333 t_Tx_go_333 := dk_go 1 a_Tx_go_332 rfl
theorem a_Tx_go_336 : dk_at b_Tx_go 336 t_Tx_go_336 := dk_go 3 a_Tx_go_333 rfl
theorem a_Tx_go_339 : dk_at b_Tx_go 339 t_Tx_go_339 := dk_go 3 a_Tx_go_336 rfl
theorem a_Tx_go_340 : dk_at b_Tx_go 340 t_Tx_go_340 := dk_go 1 a_Tx_go_339 rfl
theorem a_Tx_go_343 : dk_at b_Tx_go 343 t_Tx_go_343 := dk_go 3 a_Tx_go_340 rfl
theorem a_Tx_go_346 : dk_at b_Tx_go 346 t_Tx_go_346 := dk_go 3 a_Tx_go_343 rfl
theorem a_Tx_go_347 : dk_at b_Tx_go 347 t_Tx_go_347 := dk_go 1 a_Tx_go_346 rfl
theorem a_Tx_go_349 : dk_at b_Tx_go 349 t_Tx_go_349 := dk_go 2 a_Tx_go_347 rfl
theorem a_Tx_go_352 : dk_at b_Tx_go 352 t_Tx_go_352 := dk_go 3 a_Tx_go_349 rfl
theorem a_Tx_go_353 : dk_at b_Tx_go 353 t_Tx_go_353 := dk_go 1 a_Tx_go_352 rfl
theorem a_Tx_go_354 : dk_at b_Tx_go 354 t_Tx_go_354 := dk_go 1 a_Tx_go_353 rfl
theorem a_Tx_go_357 : dk_at b_Tx_go 357 t_Tx_go_357 := dk_go 3 a_Tx_go_354 rfl
theorem a_Tx_go_360 : dk_at b_Tx_go 360 t_Tx_go_360 := dk_go 3 a_Tx_go_357 rfl
theorem a_Tx_go_361 : dk_at b_Tx_go 361 t_Tx_go_361 := dk_go 1 a_Tx_go_360 rfl
theorem a_Tx_go_362 : dk_at b_Tx_go 362 t_Tx_go_362 := dk_go 1 a_Tx_go_361 rfl
theorem a_Tx_go_363 : dk_at b_Tx_go 363 t_Tx_go_363 := dk_go 1 a_Tx_go_362 rfl
theorem a_Tx_go_364 : dk_at b_Tx_go 364 t_Tx_go_364 := dk_go 1 a_Tx_go_363 rfl
theorem a_Tx_go_367 : dk_at b_Tx_go 367 t_Tx_go_367 := dk_go 3 a_Tx_go_364 rfl
theorem a_Tx_go_370 : dk_at b_Tx_go 370 t_Tx_go_370 := dk_go 3 a_Tx_go_367 rfl
theorem a_Tx_go_373 : dk_at b_Tx_go 373 t_Tx_go_373 := dk_go 3 a_Tx_go_370 rfl
theorem a_Tx_go_374 : dk_at b_Tx_go 374 t_Tx_go_374 := dk_go 1 a_Tx_go_373 rfl
theorem a_Tx_go_377 : dk_at b_Tx_go 377 t_Tx_go_377 := dk_go 3 a_Tx_go_374 rfl
theorem a_Tx_go_378 : dk_at b_Tx_go 378 t_Tx_go_378 := dk_go 1 a_Tx_go_377 rfl
theorem a_Tx_go_381 : dk_at b_Tx_go 381 t_Tx_go_381 := dk_go 3 a_Tx_go_378 rfl
theorem a_Tx_go_384 : dk_at b_Tx_go 384 t_Tx_go_384 := dk_go 3 a_Tx_go_381 rfl
theorem a_Tx_go_387 : dk_at b_Tx_go 387 t_Tx_go_387 := dk_go 3 a_Tx_go_384 rfl
theorem a_Tx_go_388 : dk_at b_Tx_go 388 t_Tx_go_388 := dk_go 1 a_Tx_go_387 rfl
theorem d_Tx_go_0 : decode b_Tx_go 0 = .ok (.aload_n 0, 1) := dk_0 a_Tx_go_0 (dko_42 _)
theorem d_Tx_go_1 : decode b_Tx_go 1 = .ok (.aload_n 0, 1) := dk_0 a_Tx_go_1 (dko_42 _)
theorem d_Tx_go_2 : decode b_Tx_go 2 = .ok (.getfield 133, 3) := dk_U2 a_Tx_go_2 (dko_180 _) rfl
theorem d_Tx_go_5 : decode b_Tx_go 5 = .ok (.invokevirtual 136, 3) := dk_U2 a_Tx_go_5 (dko_182 _) rfl
theorem d_Tx_go_8 : decode b_Tx_go 8 = .ok (.bipush 32, 2) := dk_S1 a_Tx_go_8 (dko_16 _) (by decide +kernel)
theorem d_Tx_go_10 : decode b_Tx_go 10 = .ok (.if_icmp .eq 16, 3) := dk_S2 a_Tx_go_10 (dko_159 _) (by decide +kernel)
theorem d_Tx_go_13 : decode b_Tx_go 13 = .ok (.aload_n 0, 1) := dk_0 a_Tx_go_13 (dko_42 _)
theorem d_Tx_go_14 : decode b_Tx_go 14 = .ok (.aload_n 0, 1) := dk_0 a_Tx_go_14 (dko_42 _)
theorem d_Tx_go_15 : decode b_Tx_go 15 = .ok (.getfield 133, 3) := dk_U2 a_Tx_go_15 (dko_180 _) rfl
theorem d_Tx_go_18 : decode b_Tx_go 18 = .ok (.invokevirtual 136, 3) := dk_U2 a_Tx_go_18 (dko_182 _) rfl
theorem d_Tx_go_21 : decode b_Tx_go 21 = .ok (.bipush 10, 2) := dk_S1 a_Tx_go_21 (dko_16 _) (by decide +kernel)
theorem d_Tx_go_23 : decode b_Tx_go 23 = .ok (.if_icmp .ne 43, 3) := dk_S2 a_Tx_go_23 (dko_160 _) (by decide +kernel)
theorem d_Tx_go_66 : decode b_Tx_go 66 = .ok (.aload_n 0, 1) := dk_0 a_Tx_go_66 (dko_42 _)
theorem d_Tx_go_67 : decode b_Tx_go 67 = .ok (.aload_n 0, 1) := dk_0 a_Tx_go_67 (dko_42 _)
theorem d_Tx_go_68 : decode b_Tx_go 68 = .ok (.getfield 133, 3) := dk_U2 a_Tx_go_68 (dko_180 _) rfl
theorem d_Tx_go_71 : decode b_Tx_go 71 = .ok (.putfield 69, 3) := dk_U2 a_Tx_go_71 (dko_181 _) rfl
theorem d_Tx_go_74 : decode b_Tx_go 74 = .ok (.aload_n 0, 1) := dk_0 a_Tx_go_74 (dko_42 _)
theorem d_Tx_go_75 : decode b_Tx_go 75 = .ok (.aload_n 0, 1) := dk_0 a_Tx_go_75 (dko_42 _)
theorem d_Tx_go_76 : decode b_Tx_go 76 = .ok (.getfield 140, 3) := dk_U2 a_Tx_go_76 (dko_180 _) rfl
theorem d_Tx_go_79 : decode b_Tx_go 79 = .ok (.putfield 143, 3) := dk_U2 a_Tx_go_79 (dko_181 _) rfl
theorem d_Tx_go_82 : decode b_Tx_go 82 = .ok (.aload_n 0, 1) := dk_0 a_Tx_go_82 (dko_42 _)
theorem d_Tx_go_83 : decode b_Tx_go 83 = .ok (.aload_n 0, 1) := dk_0 a_Tx_go_83 (dko_42 _)
theorem d_Tx_go_84 : decode b_Tx_go 84 = .ok (.getfield 133, 3) := dk_U2 a_Tx_go_84 (dko_180 _) rfl
theorem d_Tx_go_87 : decode b_Tx_go 87 = .ok (.invokevirtual 136, 3) := dk_U2 a_Tx_go_87 (dko_182 _) rfl
theorem d_Tx_go_90 : decode b_Tx_go 90 = .ok (.istore_n 1, 1) := dk_0 a_Tx_go_90 (dko_60 _)
theorem d_Tx_go_91 : decode b_Tx_go 91 = .ok (.aload_n 0, 1) := dk_0 a_Tx_go_91 (dko_42 _)
theorem d_Tx_go_92 : decode b_Tx_go 92 = .ok (.getfield 133, 3) := dk_U2 a_Tx_go_92 (dko_180 _) rfl
theorem d_Tx_go_95 : decode b_Tx_go 95 = .ok (.aload_n 0, 1) := dk_0 a_Tx_go_95 (dko_42 _)
theorem d_Tx_go_96 : decode b_Tx_go 96 = .ok (.getfield 65, 3) := dk_U2 a_Tx_go_96 (dko_180 _) rfl
theorem d_Tx_go_99 : decode b_Tx_go 99 = .ok (.if_icmp .ne 18, 3) := dk_S2 a_Tx_go_99 (dko_160 _) (by decide +kernel)
theorem d_Tx_go_102 : decode b_Tx_go 102 = .ok (.aload_n 0, 1) := dk_0 a_Tx_go_102 (dko_42 _)
theorem d_Tx_go_103 : decode b_Tx_go 103 = .ok (.aload_n 0, 1) := dk_0 a_Tx_go_103 (dko_42 _)
theorem d_Tx_go_104 : decode b_Tx_go 104 = .ok (.getfield 133, 3) := dk_U2 a_Tx_go_104 (dko_180 _) rfl
theorem d_Tx_go_107 : decode b_Tx_go 107 = .ok (.putfield 72, 3) := dk_U2 a_Tx_go_107 (dko_181 _) rfl
theorem d_Tx_go_110 : decode b_Tx_go 110 = .ok (.aload_n 0, 1) := dk_0 a_Tx_go_110 (dko_42 _)
theorem d_Tx_go_111 : decode b_Tx_go 111 = .ok (.iconst 1, 1) := dk_0 a_Tx_go_111 (dko_4 _)
theorem d_Tx_go_112 : decode b_Tx_go 112 = .ok (.putfield 146, 3) := dk_U2 a_Tx_go_112 (dko_181 _) rfl
theorem d_Tx_go_115 : decode b_Tx_go 115 = .ok (.iconst 1, 1) := dk_0 a_Tx_go_115 (dko_4 _)
theorem d_Tx_go_116 : decode b_Tx_go 116 = .ok (.ireturn, 1) := dk_0 a_Tx_go_116 (dko_172 _)
set_option maxHeartbeats 4000000 in
set_option maxRecDepth 100000 in
theorem c_Tx_go (l : Launch) (dC : Nat → ClassId) (dI : Nat → Nat → Nat) (cI cB cZ cJ : ClassId) (oT : Nat) (ft : List Value) (ht_size : fx ft 1 (.int 0)) (ht_place : fx ft 2 (.int 0)) (ht_nowLine : fx ft 3 (.int 1)) (ht_token : fx ft 4 (.int 0)) (ht_begin : fx ft 5 (.int 0)) (ht_end : fx ft 6 (.int 0)) (ht_tokenLine : fx ft 7 (.int 0)) (ht_wrong : fx ft 10 (.int (-1))) (ht_half : fx ft 12 (.int 0)) (ht_nodes : fx ft 13 (.int 0)) (ht_topsMade : fx ft 23 (.int 0)) (ht_names : fx ft 24 (.int 0)) (ht_nodeCount : fx ft 30 (.int 0)) (ht_topCount : fx ft 31 (.int 0)) (ht_nameCount : fx ft 32 (.int 0)) (ht_statements : fx ft 33 (.int 0)) (ht_made : fx ft 38 (.int 0)) (sz : Nat) : Met l y_Tx_go w_Tx_go ({ frames := 1, cells := 0, slots := 0, locals := 21 }) (va_Pc [.ref oT] (PW dC dI cI cB cZ cJ [(oT, .inr (13, ft))] sz)) (va_Qi (fun (r : Int32) (_ : Unit) => r = 1) (fun (_ : Unit) (t : State) => ∃ (n_ft : List Value), fx n_ft 1 (.int 0) ∧ fx n_ft 2 (.int 0) ∧ fx n_ft 3 (.int 1) ∧ fx n_ft 4 (.int 1) ∧ fx n_ft 5 (.int 0) ∧ fx n_ft 6 (.int 0) ∧ fx n_ft 7 (.int 1) ∧ fx n_ft 10 (.int (-1)) ∧ fx n_ft 12 (.int 0) ∧ fx n_ft 13 (.int 0) ∧ fx n_ft 23 (.int 0) ∧ fx n_ft 24 (.int 0) ∧ fx n_ft 30 (.int 0) ∧ fx n_ft 31 (.int 0) ∧ fx n_ft 32 (.int 0) ∧ fx n_ft 33 (.int 0) ∧ fx n_ft 38 (.int 0) ∧ va_P (dC, dI) classes [(oT, .inr (13, n_ft))] t.heap ∧ va_D (va_A [(oT, .inr (13, ft))] sz) [(oT, .inr (13, n_ft))]) (va_A [(oT, .inr (13, ft))] sz)) 0 0 (va_A [(oT, .inr (13, ft))] sz) := by
  refine Met.ofW (cc := b_Tx_go) (maxL := 3) (ret := (some .boolean)) (by decide) rfl ?_
  intro p e s m args below meth c s₁ B hml hv
  obtain ⟨rfl, hsz, hP, hK, hD⟩ := hv
  have hx := B.exec
  have hb := B.bytes
  have hr := B.returns
  have hts := atoms_spec (ws := w_Tx_go) B.pre
  have hown : s.vm.findClass R_Tx = some m.cls := findClass_of_methodNamed B.named
  have hlocks := B.notSynchronized
  subst hsz
  have hD := hD.self (sz := s.heap.size)
  generalize hAe : va_A [(oT, .inr (13, ft))] s.heap.size = A at hD ⊢
  have hA : ∀ q : Nat, s.heap.size ≤ q → A q := fun q h => by rw [← hAe]; exact Or.inr h
  have hS : va_S A s.heap s.heap [] := va_S.rf
  have hP : va_P (dC, dI) classes [(oT, .inr (13, ft))] s.heap := hP
  have hl := lv_entry ([.ref oT]) (n := 3) (Nat.le_of_ble_eq_true rfl)
  rw [lg_entry_eq]
  generalize (lg_sl ([.ref oT]) ++ List.replicate (3 - (lg_sl ([.ref oT])).length) Slot.unset).toArray = ls at hl ⊢
  have hl : lv_has ls 3 [(0, .ref oT)] := hl
  refine lv_aload_n hx hb d_Tx_go_0 rfl (lv_at hl 0 rfl) ?_
  refine lv_aload_n hx hb d_Tx_go_1 rfl (lv_at hl 0 rfl) ?_
  refine va_get (D := (dC, dI)) (ci := 13) (v := .int 0) (C := R_Tx) (T := F_Tx) (N := 39) hx hb hts (fun w h => List.mem_cons_of_mem _ (in_Tx w h)) hown hK.1 hP 0 rfl rfl 2 (by decide) (hts _ (List.mem_cons_of_mem _ mw_1581)) (fun _ h9 => h9) ht_place d_Tx_go_2 ?_
  have hPc := hP.sub (ws' := [(oT, .inr (13, ft))]) [0] rfl
  have hDc := hD.sub (ws' := [(oT, .inr (13, ft))]) [0] (by decide) rfl
  have hFc := pu_free hS hA
  refine va_calli (va_runV (C := R_Tx) (As := [.int 0]) (rest := []) ⟨hx, hb, hml, hown, hts⟩ (c_Tx_at l dC dI cI cB cZ cJ oT ft ht_size s.heap.size) (cwV 1 hts (tb_V mw_2186 mw_2188 sl_112 mw_19 mw_2189) rfl rfl rfl ⟨rfl, by decide +kernel, by decide +kernel, by decide +kernel⟩ ⟨(Nat.le_of_ble_eq_true rfl), (Nat.le_of_ble_eq_true rfl)⟩) ⟨pw_blind, va_recv (q := (R_Tx, F_Tx, 39)) hK.1 hP (ci := 13) (q0 := 0) rfl rfl, pw_pre hPc hK hDc⟩ rfl rfl hl.1 rfl (lv_room (Nat.le_of_ble_eq_true rfl)) d_Tx_go_5 ⟨(Nat.le_of_ble_eq_true rfl), (Nat.le_of_ble_eq_true rfl)⟩) hS (fun q _ h => hFc q h) hFc (fun r u t H locs ht hvm hw hB hz1 hk1 hS => ?_)
  have hP := pu_kept hP hk1
  obtain rfl : r = 0 := hw
  refine lv_bipush (v := 32) hx hb d_Tx_go_8 (by decide) ?_
  refine lv_icmp_eq (tgt := 26) hx hb d_Tx_go_10 (by decide) (fun h => absurd h (by decide)) (fun _ => ?_)
  refine lv_aload_n hx hb d_Tx_go_13 rfl (lv_at hl 0 rfl) ?_
  refine lv_aload_n hx hb d_Tx_go_14 rfl (lv_at hl 0 rfl) ?_
  refine va_get (D := (dC, dI)) (ci := 13) (v := .int 0) (C := R_Tx) (T := F_Tx) (N := 39) hx hb hts (fun w h => List.mem_cons_of_mem _ (in_Tx w h)) hown hK.1 hP 0 rfl rfl 2 (by decide) (hts _ (List.mem_cons_of_mem _ mw_1581)) (fun _ h9 => h9) ht_place d_Tx_go_15 ?_
  have hPc := hP.sub (ws' := [(oT, .inr (13, ft))]) [0] rfl
  have hDc := hD.sub (ws' := [(oT, .inr (13, ft))]) [0] (by decide) rfl
  have hFc := pu_free hS hA
  refine va_calli (va_runV (C := R_Tx) (As := [.int 0]) (rest := []) ⟨hx, hb, hml, hown, hts⟩ (c_Tx_at l dC dI cI cB cZ cJ oT ft ht_size H.size) (cwV 1 hts (tb_V mw_2186 mw_2188 sl_112 mw_19 mw_2189) rfl rfl rfl ⟨rfl, by decide +kernel, by decide +kernel, by decide +kernel⟩ ⟨(Nat.le_of_ble_eq_true rfl), (Nat.le_of_ble_eq_true rfl)⟩) ⟨pw_blind, va_recv (q := (R_Tx, F_Tx, 39)) hK.1 hP (ci := 13) (q0 := 0) rfl rfl, pw_pre hPc hK hDc⟩ rfl rfl hl.1 rfl (lv_room (Nat.le_of_ble_eq_true rfl)) d_Tx_go_18 ⟨(Nat.le_of_ble_eq_true rfl), (Nat.le_of_ble_eq_true rfl)⟩) hS (fun q _ h => hFc q h) hFc (fun r u t H locs ht hvm hw hB hz1 hk1 hS => ?_)
  have hP := pu_kept hP hk1
  obtain rfl : r = 0 := hw
  refine lv_bipush (v := 10) hx hb d_Tx_go_21 (by decide) ?_
  refine lv_icmp_ne (tgt := 66) hx hb d_Tx_go_23 (by decide) (fun _ => ?_) (fun h => absurd h (by decide))
  refine lv_aload_n hx hb d_Tx_go_66 rfl (lv_at hl 0 rfl) ?_
  refine lv_aload_n hx hb d_Tx_go_67 rfl (lv_at hl 0 rfl) ?_
  refine va_get (D := (dC, dI)) (ci := 13) (v := .int 0) (C := R_Tx) (T := F_Tx) (N := 39) hx hb hts (fun w h => List.mem_cons_of_mem _ (in_Tx w h)) hown hK.1 hP 0 rfl rfl 2 (by decide) (hts _ (List.mem_cons_of_mem _ mw_1581)) (fun _ h9 => h9) ht_place d_Tx_go_68 ?_
  refine va_put (D := (dC, dI)) (ci := 13) (v := .int 0) (ty := .int) (C := R_Tx) (T := F_Tx) (N := 39) hx hb hts (fun w h => List.mem_cons_of_mem _ (in_Tx w h)) t_Tx t_Tx_ok n_Tx hown hK.1 hP hD hS 0 rfl rfl 5 (by decide) (hts _ (List.mem_cons_of_mem _ mw_1584)) (fun _ h9 => h9) rfl (by decide +kernel) rfl rfl (st_lt ht_begin) d_Tx_go_71 (fun H locs hP hD hS => ?_)
  have g71_5 : fx (ft.set 5 (.int 0)) 5 (.int 0) := (st_eq ht_begin)
  have g71_6 : fx (ft.set 5 (.int 0)) 6 (.int 0) := (st_ne ht_end (by decide))
  have g71_12 : fx (ft.set 5 (.int 0)) 12 (.int 0) := (st_ne ht_half (by decide))
  have g71_38 : fx (ft.set 5 (.int 0)) 38 (.int 0) := (st_ne ht_made (by decide))
  have g71_32 : fx (ft.set 5 (.int 0)) 32 (.int 0) := (st_ne ht_nameCount (by decide))
  have g71_24 : fx (ft.set 5 (.int 0)) 24 (.int 0) := (st_ne ht_names (by decide))
  have g71_30 : fx (ft.set 5 (.int 0)) 30 (.int 0) := (st_ne ht_nodeCount (by decide))
  have g71_13 : fx (ft.set 5 (.int 0)) 13 (.int 0) := (st_ne ht_nodes (by decide))
  have g71_3 : fx (ft.set 5 (.int 0)) 3 (.int 1) := (st_ne ht_nowLine (by decide))
  have g71_2 : fx (ft.set 5 (.int 0)) 2 (.int 0) := (st_ne ht_place (by decide))
  have g71_1 : fx (ft.set 5 (.int 0)) 1 (.int 0) := (st_ne ht_size (by decide))
  have g71_33 : fx (ft.set 5 (.int 0)) 33 (.int 0) := (st_ne ht_statements (by decide))
  have g71_4 : fx (ft.set 5 (.int 0)) 4 (.int 0) := (st_ne ht_token (by decide))
  have g71_7 : fx (ft.set 5 (.int 0)) 7 (.int 0) := (st_ne ht_tokenLine (by decide))
  have g71_31 : fx (ft.set 5 (.int 0)) 31 (.int 0) := (st_ne ht_topCount (by decide))
  have g71_23 : fx (ft.set 5 (.int 0)) 23 (.int 0) := (st_ne ht_topsMade (by decide))
  have g71_10 : fx (ft.set 5 (.int 0)) 10 (.int (-1)) := (st_ne ht_wrong (by decide))
  have hP : va_P (dC, dI) classes [(oT, .inr (13, (ft.set 5 (.int 0))))] H := hP
  have hD : va_D A [(oT, .inr (13, (ft.set 5 (.int 0))))] := hD
  refine lv_aload_n hx hb d_Tx_go_74 rfl (lv_at hl 0 rfl) ?_
  refine lv_aload_n hx hb d_Tx_go_75 rfl (lv_at hl 0 rfl) ?_
  refine va_get (D := (dC, dI)) (ci := 13) (v := .int 1) (C := R_Tx) (T := F_Tx) (N := 39) hx hb hts (fun w h => List.mem_cons_of_mem _ (in_Tx w h)) hown hK.1 hP 0 rfl rfl 3 (by decide) (hts _ (List.mem_cons_of_mem _ mw_1582)) (fun _ h9 => h9) g71_3 d_Tx_go_76 ?_
  refine va_put (D := (dC, dI)) (ci := 13) (v := .int 1) (ty := .int) (C := R_Tx) (T := F_Tx) (N := 39) hx hb hts (fun w h => List.mem_cons_of_mem _ (in_Tx w h)) t_Tx t_Tx_ok n_Tx hown hK.1 hP hD hS 0 rfl rfl 7 (by decide) (hts _ (List.mem_cons_of_mem _ mw_1586)) (fun _ h9 => h9) rfl (by decide +kernel) rfl rfl (st_lt g71_7) d_Tx_go_79 (fun H locs hP hD hS => ?_)
  have g79_5 : fx ((ft.set 5 (.int 0)).set 7 (.int 1)) 5 (.int 0) := (st_ne g71_5 (by decide))
  have g79_6 : fx ((ft.set 5 (.int 0)).set 7 (.int 1)) 6 (.int 0) := (st_ne g71_6 (by decide))
  have g79_12 : fx ((ft.set 5 (.int 0)).set 7 (.int 1)) 12 (.int 0) := (st_ne g71_12 (by decide))
  have g79_38 : fx ((ft.set 5 (.int 0)).set 7 (.int 1)) 38 (.int 0) := (st_ne g71_38 (by decide))
  have g79_32 : fx ((ft.set 5 (.int 0)).set 7 (.int 1)) 32 (.int 0) := (st_ne g71_32 (by decide))
  have g79_24 : fx ((ft.set 5 (.int 0)).set 7 (.int 1)) 24 (.int 0) := (st_ne g71_24 (by decide))
  have g79_30 : fx ((ft.set 5 (.int 0)).set 7 (.int 1)) 30 (.int 0) := (st_ne g71_30 (by decide))
  have g79_13 : fx ((ft.set 5 (.int 0)).set 7 (.int 1)) 13 (.int 0) := (st_ne g71_13 (by decide))
  have g79_3 : fx ((ft.set 5 (.int 0)).set 7 (.int 1)) 3 (.int 1) := (st_ne g71_3 (by decide))
  have g79_2 : fx ((ft.set 5 (.int 0)).set 7 (.int 1)) 2 (.int 0) := (st_ne g71_2 (by decide))
  have g79_1 : fx ((ft.set 5 (.int 0)).set 7 (.int 1)) 1 (.int 0) := (st_ne g71_1 (by decide))
  have g79_33 : fx ((ft.set 5 (.int 0)).set 7 (.int 1)) 33 (.int 0) := (st_ne g71_33 (by decide))
  have g79_4 : fx ((ft.set 5 (.int 0)).set 7 (.int 1)) 4 (.int 0) := (st_ne g71_4 (by decide))
  have g79_7 : fx ((ft.set 5 (.int 0)).set 7 (.int 1)) 7 (.int 1) := (st_eq g71_7)
  have g79_31 : fx ((ft.set 5 (.int 0)).set 7 (.int 1)) 31 (.int 0) := (st_ne g71_31 (by decide))
  have g79_23 : fx ((ft.set 5 (.int 0)).set 7 (.int 1)) 23 (.int 0) := (st_ne g71_23 (by decide))
  have g79_10 : fx ((ft.set 5 (.int 0)).set 7 (.int 1)) 10 (.int (-1)) := (st_ne g71_10 (by decide))
  have hP : va_P (dC, dI) classes [(oT, .inr (13, ((ft.set 5 (.int 0)).set 7 (.int 1))))] H := hP
  have hD : va_D A [(oT, .inr (13, ((ft.set 5 (.int 0)).set 7 (.int 1))))] := hD
  refine lv_aload_n hx hb d_Tx_go_82 rfl (lv_at hl 0 rfl) ?_
  refine lv_aload_n hx hb d_Tx_go_83 rfl (lv_at hl 0 rfl) ?_
  refine va_get (D := (dC, dI)) (ci := 13) (v := .int 0) (C := R_Tx) (T := F_Tx) (N := 39) hx hb hts (fun w h => List.mem_cons_of_mem _ (in_Tx w h)) hown hK.1 hP 0 rfl rfl 2 (by decide) (hts _ (List.mem_cons_of_mem _ mw_1581)) (fun _ h9 => h9) g79_2 d_Tx_go_84 ?_
  have hPc := hP.sub (ws' := [(oT, .inr (13, ((ft.set 5 (.int 0)).set 7 (.int 1))))]) [0] rfl
  have hDc := hD.sub (ws' := [(oT, .inr (13, ((ft.set 5 (.int 0)).set 7 (.int 1))))]) [0] (by decide) rfl
  have hFc := pu_free hS hA
  refine va_calli (va_runV (C := R_Tx) (As := [.int 0]) (rest := []) ⟨hx, hb, hml, hown, hts⟩ (c_Tx_at l dC dI cI cB cZ cJ oT (((ft.set 5 (.int 0)).set 7 (.int 1))) g79_1 H.size) (cwV 1 hts (tb_V mw_2186 mw_2188 sl_112 mw_19 mw_2189) rfl rfl rfl ⟨rfl, by decide +kernel, by decide +kernel, by decide +kernel⟩ ⟨(Nat.le_of_ble_eq_true rfl), (Nat.le_of_ble_eq_true rfl)⟩) ⟨pw_blind, va_recv (q := (R_Tx, F_Tx, 39)) hK.1 hP (ci := 13) (q0 := 0) rfl rfl, pw_pre hPc hK hDc⟩ rfl rfl hl.1 rfl (lv_room (Nat.le_of_ble_eq_true rfl)) d_Tx_go_87 ⟨(Nat.le_of_ble_eq_true rfl), (Nat.le_of_ble_eq_true rfl)⟩) hS (fun q _ h => hFc q h) hFc (fun r u t H locs ht hvm hw hB hz1 hk1 hS => ?_)
  have hP := pu_kept hP hk1
  obtain rfl : r = 0 := hw
  refine lv_istore_n hx hb d_Tx_go_90 rfl hl (by decide) rfl (fun ls hl => ?_)
  have hl : lv_has ls 3 [(1, .int 0), (0, .ref oT)] := hl
  refine lv_aload_n hx hb d_Tx_go_91 rfl (lv_at hl 1 rfl) ?_
  refine va_get (D := (dC, dI)) (ci := 13) (v := .int 0) (C := R_Tx) (T := F_Tx) (N := 39) hx hb hts (fun w h => List.mem_cons_of_mem _ (in_Tx w h)) hown hK.1 hP 0 rfl rfl 2 (by decide) (hts _ (List.mem_cons_of_mem _ mw_1581)) (fun _ h9 => h9) g79_2 d_Tx_go_92 ?_
  refine lv_aload_n hx hb d_Tx_go_95 rfl (lv_at hl 1 rfl) ?_
  refine va_get (D := (dC, dI)) (ci := 13) (v := .int 0) (C := R_Tx) (T := F_Tx) (N := 39) hx hb hts (fun w h => List.mem_cons_of_mem _ (in_Tx w h)) hown hK.1 hP 0 rfl rfl 1 (by decide) (hts _ (List.mem_cons_of_mem _ mw_1580)) (fun _ h9 => h9) g79_1 d_Tx_go_96 ?_
  refine lv_icmp_ne (tgt := 117) hx hb d_Tx_go_99 (by decide) (fun h => absurd rfl h) (fun _ => ?_)
  refine lv_aload_n hx hb d_Tx_go_102 rfl (lv_at hl 1 rfl) ?_
  refine lv_aload_n hx hb d_Tx_go_103 rfl (lv_at hl 1 rfl) ?_
  refine va_get (D := (dC, dI)) (ci := 13) (v := .int 0) (C := R_Tx) (T := F_Tx) (N := 39) hx hb hts (fun w h => List.mem_cons_of_mem _ (in_Tx w h)) hown hK.1 hP 0 rfl rfl 2 (by decide) (hts _ (List.mem_cons_of_mem _ mw_1581)) (fun _ h9 => h9) g79_2 d_Tx_go_104 ?_
  refine va_put (D := (dC, dI)) (ci := 13) (v := .int 0) (ty := .int) (C := R_Tx) (T := F_Tx) (N := 39) hx hb hts (fun w h => List.mem_cons_of_mem _ (in_Tx w h)) t_Tx t_Tx_ok n_Tx hown hK.1 hP hD hS 0 rfl rfl 6 (by decide) (hts _ (List.mem_cons_of_mem _ mw_1585)) (fun _ h9 => h9) rfl (by decide +kernel) rfl rfl (st_lt g79_6) d_Tx_go_107 (fun H locs hP hD hS => ?_)
  have g107_5 : fx (((ft.set 5 (.int 0)).set 7 (.int 1)).set 6 (.int 0)) 5 (.int 0) := (st_ne g79_5 (by decide))
  have g107_6 : fx (((ft.set 5 (.int 0)).set 7 (.int 1)).set 6 (.int 0)) 6 (.int 0) := (st_eq g79_6)
  have g107_12 : fx (((ft.set 5 (.int 0)).set 7 (.int 1)).set 6 (.int 0)) 12 (.int 0) := (st_ne g79_12 (by decide))
  have g107_38 : fx (((ft.set 5 (.int 0)).set 7 (.int 1)).set 6 (.int 0)) 38 (.int 0) := (st_ne g79_38 (by decide))
  have g107_32 : fx (((ft.set 5 (.int 0)).set 7 (.int 1)).set 6 (.int 0)) 32 (.int 0) := (st_ne g79_32 (by decide))
  have g107_24 : fx (((ft.set 5 (.int 0)).set 7 (.int 1)).set 6 (.int 0)) 24 (.int 0) := (st_ne g79_24 (by decide))
  have g107_30 : fx (((ft.set 5 (.int 0)).set 7 (.int 1)).set 6 (.int 0)) 30 (.int 0) := (st_ne g79_30 (by decide))
  have g107_13 : fx (((ft.set 5 (.int 0)).set 7 (.int 1)).set 6 (.int 0)) 13 (.int 0) := (st_ne g79_13 (by decide))
  have g107_3 : fx (((ft.set 5 (.int 0)).set 7 (.int 1)).set 6 (.int 0)) 3 (.int 1) := (st_ne g79_3 (by decide))
  have g107_2 : fx (((ft.set 5 (.int 0)).set 7 (.int 1)).set 6 (.int 0)) 2 (.int 0) := (st_ne g79_2 (by decide))
  have g107_1 : fx (((ft.set 5 (.int 0)).set 7 (.int 1)).set 6 (.int 0)) 1 (.int 0) := (st_ne g79_1 (by decide))
  have g107_33 : fx (((ft.set 5 (.int 0)).set 7 (.int 1)).set 6 (.int 0)) 33 (.int 0) := (st_ne g79_33 (by decide))
  have g107_4 : fx (((ft.set 5 (.int 0)).set 7 (.int 1)).set 6 (.int 0)) 4 (.int 0) := (st_ne g79_4 (by decide))
  have g107_7 : fx (((ft.set 5 (.int 0)).set 7 (.int 1)).set 6 (.int 0)) 7 (.int 1) := (st_ne g79_7 (by decide))
  have g107_31 : fx (((ft.set 5 (.int 0)).set 7 (.int 1)).set 6 (.int 0)) 31 (.int 0) := (st_ne g79_31 (by decide))
  have g107_23 : fx (((ft.set 5 (.int 0)).set 7 (.int 1)).set 6 (.int 0)) 23 (.int 0) := (st_ne g79_23 (by decide))
  have g107_10 : fx (((ft.set 5 (.int 0)).set 7 (.int 1)).set 6 (.int 0)) 10 (.int (-1)) := (st_ne g79_10 (by decide))
  have hP : va_P (dC, dI) classes [(oT, .inr (13, (((ft.set 5 (.int 0)).set 7 (.int 1)).set 6 (.int 0))))] H := hP
  have hD : va_D A [(oT, .inr (13, (((ft.set 5 (.int 0)).set 7 (.int 1)).set 6 (.int 0))))] := hD
  refine lv_aload_n hx hb d_Tx_go_110 rfl (lv_at hl 1 rfl) ?_
  refine lv_iconst (v := 1) hx hb d_Tx_go_111 (by decide) ?_
  refine va_put (D := (dC, dI)) (ci := 13) (v := .int 1) (ty := .int) (C := R_Tx) (T := F_Tx) (N := 39) hx hb hts (fun w h => List.mem_cons_of_mem _ (in_Tx w h)) t_Tx t_Tx_ok n_Tx hown hK.1 hP hD hS 0 rfl rfl 4 (by decide) (hts _ (List.mem_cons_of_mem _ mw_1583)) (fun _ h9 => h9) rfl (by decide +kernel) rfl rfl (st_lt g107_4) d_Tx_go_112 (fun H locs hP hD hS => ?_)
  have g112_5 : fx ((((ft.set 5 (.int 0)).set 7 (.int 1)).set 6 (.int 0)).set 4 (.int 1)) 5 (.int 0) := (st_ne g107_5 (by decide))
  have g112_6 : fx ((((ft.set 5 (.int 0)).set 7 (.int 1)).set 6 (.int 0)).set 4 (.int 1)) 6 (.int 0) := (st_ne g107_6 (by decide))
  have g112_12 : fx ((((ft.set 5 (.int 0)).set 7 (.int 1)).set 6 (.int 0)).set 4 (.int 1)) 12 (.int 0) := (st_ne g107_12 (by decide))
  have g112_38 : fx ((((ft.set 5 (.int 0)).set 7 (.int 1)).set 6 (.int 0)).set 4 (.int 1)) 38 (.int 0) := (st_ne g107_38 (by decide))
  have g112_32 : fx ((((ft.set 5 (.int 0)).set 7 (.int 1)).set 6 (.int 0)).set 4 (.int 1)) 32 (.int 0) := (st_ne g107_32 (by decide))
  have g112_24 : fx ((((ft.set 5 (.int 0)).set 7 (.int 1)).set 6 (.int 0)).set 4 (.int 1)) 24 (.int 0) := (st_ne g107_24 (by decide))
  have g112_30 : fx ((((ft.set 5 (.int 0)).set 7 (.int 1)).set 6 (.int 0)).set 4 (.int 1)) 30 (.int 0) := (st_ne g107_30 (by decide))
  have g112_13 : fx ((((ft.set 5 (.int 0)).set 7 (.int 1)).set 6 (.int 0)).set 4 (.int 1)) 13 (.int 0) := (st_ne g107_13 (by decide))
  have g112_3 : fx ((((ft.set 5 (.int 0)).set 7 (.int 1)).set 6 (.int 0)).set 4 (.int 1)) 3 (.int 1) := (st_ne g107_3 (by decide))
  have g112_2 : fx ((((ft.set 5 (.int 0)).set 7 (.int 1)).set 6 (.int 0)).set 4 (.int 1)) 2 (.int 0) := (st_ne g107_2 (by decide))
  have g112_1 : fx ((((ft.set 5 (.int 0)).set 7 (.int 1)).set 6 (.int 0)).set 4 (.int 1)) 1 (.int 0) := (st_ne g107_1 (by decide))
  have g112_33 : fx ((((ft.set 5 (.int 0)).set 7 (.int 1)).set 6 (.int 0)).set 4 (.int 1)) 33 (.int 0) := (st_ne g107_33 (by decide))
  have g112_4 : fx ((((ft.set 5 (.int 0)).set 7 (.int 1)).set 6 (.int 0)).set 4 (.int 1)) 4 (.int 1) := (st_eq g107_4)
  have g112_7 : fx ((((ft.set 5 (.int 0)).set 7 (.int 1)).set 6 (.int 0)).set 4 (.int 1)) 7 (.int 1) := (st_ne g107_7 (by decide))
  have g112_31 : fx ((((ft.set 5 (.int 0)).set 7 (.int 1)).set 6 (.int 0)).set 4 (.int 1)) 31 (.int 0) := (st_ne g107_31 (by decide))
  have g112_23 : fx ((((ft.set 5 (.int 0)).set 7 (.int 1)).set 6 (.int 0)).set 4 (.int 1)) 23 (.int 0) := (st_ne g107_23 (by decide))
  have g112_10 : fx ((((ft.set 5 (.int 0)).set 7 (.int 1)).set 6 (.int 0)).set 4 (.int 1)) 10 (.int (-1)) := (st_ne g107_10 (by decide))
  have hP : va_P (dC, dI) classes [(oT, .inr (13, ((((ft.set 5 (.int 0)).set 7 (.int 1)).set 6 (.int 0)).set 4 (.int 1))))] H := hP
  have hD : va_D A [(oT, .inr (13, ((((ft.set 5 (.int 0)).set 7 (.int 1)).set 6 (.int 0)).set 4 (.int 1))))] := hD
  refine lv_iconst (v := 1) hx hb d_Tx_go_115 (by decide) ?_
  exact W.zret (v := 1) (ty := .boolean) hx hb hr (by decide) (fun t ht hW => ⟨⟨_, (), rfl, (rfl), ⟨((((ft.set 5 (.int 0)).set 7 (.int 1)).set 6 (.int 0)).set 4 (.int 1)), g112_1, g112_2, g112_3, g112_4, g112_5, g112_6, g112_7, g112_10, g112_12, g112_13, g112_23, g112_24, g112_30, g112_31, g112_32, g112_33, g112_38, by rw [ht]; exact hP, hD⟩⟩, hS.F ht⟩) hS.2.2 d_Tx_go_116
abbrev t_Tx_isWord_17 : List UInt8 := 172 :: []
abbrev t_Tx_isWord_16 : List UInt8 := 3 :: t_Tx_isWord_17
abbrev t_Tx_isWord_13 : List UInt8 := 167 :: 0 :: 4 :: t_Tx_isWord_16
abbrev t_Tx_isWord_12 : List UInt8 := 4 :: t_Tx_isWord_13
abbrev t_Tx_isWord_9 : List UInt8 := 160 :: 0 :: 7 :: t_Tx_isWord_12
abbrev t_Tx_isWord_8 : List UInt8 := 96 :: t_Tx_isWord_9
abbrev t_Tx_isWord_7 : List UInt8 := 27 :: t_Tx_isWord_8
abbrev t_Tx_isWord_4 : List UInt8 := 17 :: 3 :: 232 :: t_Tx_isWord_7
abbrev t_Tx_isWord_1 : List UInt8 := 180 :: 0 :: 146 :: t_Tx_isWord_4
abbrev t_Tx_isWord_0 : List UInt8 := 42 :: t_Tx_isWord_1
theorem a_Tx_isWord_0 : dk_at b_Tx_isWord 0 t_Tx_isWord_0 := dk_start (by decide +kernel)
theorem a_Tx_isWord_1 : dk_at b_Tx_isWord 1 t_Tx_isWord_1 := dk_go 1 a_Tx_isWord_0 rfl
theorem a_Tx_isWord_4 : dk_at b_Tx_isWord 4 t_Tx_isWord_4 := dk_go 3 a_Tx_isWord_1 rfl
theorem a_Tx_isWord_7 : dk_at b_Tx_isWord 7 t_Tx_isWord_7 := dk_go 3 a_Tx_isWord_4 rfl
theorem a_Tx_isWord_8 : dk_at b_Tx_isWord 8 t_Tx_isWord_8 := dk_go 1 a_Tx_isWord_7 rfl
theorem a_Tx_isWord_9 : dk_at b_Tx_isWord 9 t_Tx_isWord_9 := dk_go 1 a_Tx_isWord_8 rfl
theorem a_Tx_isWord_12 : dk_at b_Tx_isWord 12 t_Tx_isWord_12 := dk_go 3 a_Tx_isWord_9 rfl
theorem a_Tx_isWord_13 : dk_at b_Tx_isWord 13 t_Tx_isWord_13 := dk_go 1 a_Tx_isWord_12 rfl
theorem a_Tx_isWord_16 : dk_at b_Tx_isWord 16 t_Tx_isWord_16 := dk_go 3 a_Tx_isWord_13 rfl
theorem a_Tx_isWord_17 : dk_at b_Tx_isWord 17 t_Tx_isWord_17 := dk_go 1 a_Tx_isWord_16 rfl
theorem d_Tx_isWord_0 : decode b_Tx_isWord 0 = .ok (.aload_n 0, 1) := dk_0 a_Tx_isWord_0 (dko_42 _)
theorem d_Tx_isWord_1 : decode b_Tx_isWord 1 = .ok (.getfield 146, 3) := dk_U2 a_Tx_isWord_1 (dko_180 _) rfl
theorem d_Tx_isWord_4 : decode b_Tx_isWord 4 = .ok (.sipush 1000, 3) := dk_S2 a_Tx_isWord_4 (dko_17 _) (by decide +kernel)
theorem d_Tx_isWord_7 : decode b_Tx_isWord 7 = .ok (.iload_n 1, 1) := dk_0 a_Tx_isWord_7 (dko_27 _)
theorem d_Tx_isWord_8 : decode b_Tx_isWord 8 = .ok (.iadd, 1) := dk_0 a_Tx_isWord_8 (dko_96 _)
theorem d_Tx_isWord_9 : decode b_Tx_isWord 9 = .ok (.if_icmp .ne 7, 3) := dk_S2 a_Tx_isWord_9 (dko_160 _) (by decide +kernel)
theorem d_Tx_isWord_16 : decode b_Tx_isWord 16 = .ok (.iconst 0, 1) := dk_0 a_Tx_isWord_16 (dko_3 _)
theorem d_Tx_isWord_17 : decode b_Tx_isWord 17 = .ok (.ireturn, 1) := dk_0 a_Tx_isWord_17 (dko_172 _)
set_option maxHeartbeats 4000000 in
set_option maxRecDepth 100000 in
theorem c_Tx_isWord_30 (l : Launch) (dC : Nat → ClassId) (dI : Nat → Nat → Nat) (cI cB cZ cJ : ClassId) (oT : Nat) (ft : List Value) (ht_token : fx ft 4 (.int 1)) (sz : Nat) : Met l y_Tx_isWord w_Tx_isWord ({ frames := 0, cells := 0, slots := 0, locals := 0 }) (va_Pc [.ref oT, .int 30] (PW dC dI cI cB cZ cJ [(oT, .inr (13, ft))] sz)) (va_Qi (fun (r : Int32) (_ : Unit) => r = 0) (fun _ _ => True) (va_A [] sz)) 0 0 (va_A [] sz) := by
  refine Met.ofW (cc := b_Tx_isWord) (maxL := 2) (ret := (some .boolean)) (by decide) rfl ?_
  intro p e s m args below meth c s₁ B hml hv
  obtain ⟨rfl, hsz, hP, hK, hD⟩ := hv
  have hx := B.exec
  have hb := B.bytes
  have hr := B.returns
  have hts := atoms_spec (ws := w_Tx_isWord) B.pre
  have hown : s.vm.findClass R_Tx = some m.cls := findClass_of_methodNamed B.named
  have hlocks := B.notSynchronized
  subst hsz
  generalize hAe : va_A [] s.heap.size = A at ⊢
  have hA : ∀ q : Nat, s.heap.size ≤ q → A q := fun q h => by rw [← hAe]; exact Or.inr h
  have hS : va_S A s.heap s.heap [] := va_S.rf
  have hP : va_P (dC, dI) classes [(oT, .inr (13, ft))] s.heap := hP
  have hl := lv_entry ([.ref oT, .int 30]) (n := 2) (Nat.le_of_ble_eq_true rfl)
  rw [lg_entry_eq]
  generalize (lg_sl ([.ref oT, .int 30]) ++ List.replicate (2 - (lg_sl ([.ref oT, .int 30])).length) Slot.unset).toArray = ls at hl ⊢
  have hl : lv_has ls 2 [(0, .ref oT), (1, .int 30)] := hl
  refine lv_aload_n hx hb d_Tx_isWord_0 rfl (lv_at hl 0 rfl) ?_
  refine va_get (D := (dC, dI)) (ci := 13) (v := .int 1) (C := R_Tx) (T := F_Tx) (N := 39) hx hb hts (fun w h => List.mem_cons_of_mem _ (in_Tx w h)) hown hK.1 hP 0 rfl rfl 4 (by decide) (hts _ (List.mem_cons_of_mem _ mw_1583)) (fun _ h9 => h9) ht_token d_Tx_isWord_1 ?_
  refine lv_sipush (v := 1000) hx hb d_Tx_isWord_4 (by decide) ?_
  refine lv_iload_n hx hb d_Tx_isWord_7 rfl (lv_at hl 1 rfl) ?_
  refine lv_iadd hx hb d_Tx_isWord_8 ?_
  refine lv_topi (fun x0 e0 => ?_)
  obtain rfl : x0 = 1030 := e0.trans (by decide)
  refine lv_icmp_ne (tgt := 16) hx hb d_Tx_isWord_9 (by decide) (fun _ => ?_) (fun h => absurd h (by decide))
  refine lv_iconst (v := 0) hx hb d_Tx_isWord_16 (by decide) ?_
  exact W.zret (v := 0) (ty := .boolean) hx hb hr (by decide) (fun t ht hW => ⟨⟨_, (), rfl, (rfl), trivial⟩, hS.F ht⟩) hS.2.2 d_Tx_isWord_17
set_option maxHeartbeats 4000000 in
set_option maxRecDepth 100000 in
theorem c_Tx_isWord_31 (l : Launch) (dC : Nat → ClassId) (dI : Nat → Nat → Nat) (cI cB cZ cJ : ClassId) (oT : Nat) (ft : List Value) (ht_token : fx ft 4 (.int 1)) (sz : Nat) : Met l y_Tx_isWord w_Tx_isWord ({ frames := 0, cells := 0, slots := 0, locals := 0 }) (va_Pc [.ref oT, .int 31] (PW dC dI cI cB cZ cJ [(oT, .inr (13, ft))] sz)) (va_Qi (fun (r : Int32) (_ : Unit) => r = 0) (fun _ _ => True) (va_A [] sz)) 0 0 (va_A [] sz) := by
  refine Met.ofW (cc := b_Tx_isWord) (maxL := 2) (ret := (some .boolean)) (by decide) rfl ?_
  intro p e s m args below meth c s₁ B hml hv
  obtain ⟨rfl, hsz, hP, hK, hD⟩ := hv
  have hx := B.exec
  have hb := B.bytes
  have hr := B.returns
  have hts := atoms_spec (ws := w_Tx_isWord) B.pre
  have hown : s.vm.findClass R_Tx = some m.cls := findClass_of_methodNamed B.named
  have hlocks := B.notSynchronized
  subst hsz
  generalize hAe : va_A [] s.heap.size = A at ⊢
  have hA : ∀ q : Nat, s.heap.size ≤ q → A q := fun q h => by rw [← hAe]; exact Or.inr h
  have hS : va_S A s.heap s.heap [] := va_S.rf
  have hP : va_P (dC, dI) classes [(oT, .inr (13, ft))] s.heap := hP
  have hl := lv_entry ([.ref oT, .int 31]) (n := 2) (Nat.le_of_ble_eq_true rfl)
  rw [lg_entry_eq]
  generalize (lg_sl ([.ref oT, .int 31]) ++ List.replicate (2 - (lg_sl ([.ref oT, .int 31])).length) Slot.unset).toArray = ls at hl ⊢
  have hl : lv_has ls 2 [(0, .ref oT), (1, .int 31)] := hl
  refine lv_aload_n hx hb d_Tx_isWord_0 rfl (lv_at hl 0 rfl) ?_
  refine va_get (D := (dC, dI)) (ci := 13) (v := .int 1) (C := R_Tx) (T := F_Tx) (N := 39) hx hb hts (fun w h => List.mem_cons_of_mem _ (in_Tx w h)) hown hK.1 hP 0 rfl rfl 4 (by decide) (hts _ (List.mem_cons_of_mem _ mw_1583)) (fun _ h9 => h9) ht_token d_Tx_isWord_1 ?_
  refine lv_sipush (v := 1000) hx hb d_Tx_isWord_4 (by decide) ?_
  refine lv_iload_n hx hb d_Tx_isWord_7 rfl (lv_at hl 1 rfl) ?_
  refine lv_iadd hx hb d_Tx_isWord_8 ?_
  refine lv_topi (fun x0 e0 => ?_)
  obtain rfl : x0 = 1031 := e0.trans (by decide)
  refine lv_icmp_ne (tgt := 16) hx hb d_Tx_isWord_9 (by decide) (fun _ => ?_) (fun h => absurd h (by decide))
  refine lv_iconst (v := 0) hx hb d_Tx_isWord_16 (by decide) ?_
  exact W.zret (v := 0) (ty := .boolean) hx hb hr (by decide) (fun t ht hW => ⟨⟨_, (), rfl, (rfl), trivial⟩, hS.F ht⟩) hS.2.2 d_Tx_isWord_17
set_option maxHeartbeats 4000000 in
set_option maxRecDepth 100000 in
theorem c_Tx_isWord_24 (l : Launch) (dC : Nat → ClassId) (dI : Nat → Nat → Nat) (cI cB cZ cJ : ClassId) (oT : Nat) (ft : List Value) (ht_token : fx ft 4 (.int 1)) (sz : Nat) : Met l y_Tx_isWord w_Tx_isWord ({ frames := 0, cells := 0, slots := 0, locals := 0 }) (va_Pc [.ref oT, .int 24] (PW dC dI cI cB cZ cJ [(oT, .inr (13, ft))] sz)) (va_Qi (fun (r : Int32) (_ : Unit) => r = 0) (fun _ _ => True) (va_A [] sz)) 0 0 (va_A [] sz) := by
  refine Met.ofW (cc := b_Tx_isWord) (maxL := 2) (ret := (some .boolean)) (by decide) rfl ?_
  intro p e s m args below meth c s₁ B hml hv
  obtain ⟨rfl, hsz, hP, hK, hD⟩ := hv
  have hx := B.exec
  have hb := B.bytes
  have hr := B.returns
  have hts := atoms_spec (ws := w_Tx_isWord) B.pre
  have hown : s.vm.findClass R_Tx = some m.cls := findClass_of_methodNamed B.named
  have hlocks := B.notSynchronized
  subst hsz
  generalize hAe : va_A [] s.heap.size = A at ⊢
  have hA : ∀ q : Nat, s.heap.size ≤ q → A q := fun q h => by rw [← hAe]; exact Or.inr h
  have hS : va_S A s.heap s.heap [] := va_S.rf
  have hP : va_P (dC, dI) classes [(oT, .inr (13, ft))] s.heap := hP
  have hl := lv_entry ([.ref oT, .int 24]) (n := 2) (Nat.le_of_ble_eq_true rfl)
  rw [lg_entry_eq]
  generalize (lg_sl ([.ref oT, .int 24]) ++ List.replicate (2 - (lg_sl ([.ref oT, .int 24])).length) Slot.unset).toArray = ls at hl ⊢
  have hl : lv_has ls 2 [(0, .ref oT), (1, .int 24)] := hl
  refine lv_aload_n hx hb d_Tx_isWord_0 rfl (lv_at hl 0 rfl) ?_
  refine va_get (D := (dC, dI)) (ci := 13) (v := .int 1) (C := R_Tx) (T := F_Tx) (N := 39) hx hb hts (fun w h => List.mem_cons_of_mem _ (in_Tx w h)) hown hK.1 hP 0 rfl rfl 4 (by decide) (hts _ (List.mem_cons_of_mem _ mw_1583)) (fun _ h9 => h9) ht_token d_Tx_isWord_1 ?_
  refine lv_sipush (v := 1000) hx hb d_Tx_isWord_4 (by decide) ?_
  refine lv_iload_n hx hb d_Tx_isWord_7 rfl (lv_at hl 1 rfl) ?_
  refine lv_iadd hx hb d_Tx_isWord_8 ?_
  refine lv_topi (fun x0 e0 => ?_)
  obtain rfl : x0 = 1024 := e0.trans (by decide)
  refine lv_icmp_ne (tgt := 16) hx hb d_Tx_isWord_9 (by decide) (fun _ => ?_) (fun h => absurd h (by decide))
  refine lv_iconst (v := 0) hx hb d_Tx_isWord_16 (by decide) ?_
  exact W.zret (v := 0) (ty := .boolean) hx hb hr (by decide) (fun t ht hW => ⟨⟨_, (), rfl, (rfl), trivial⟩, hS.F ht⟩) hS.2.2 d_Tx_isWord_17
abbrev t_Tx_program_104 : List UInt8 := 172 :: []
abbrev t_Tx_program_103 : List UInt8 := 27 :: t_Tx_program_104
abbrev t_Tx_program_100 : List UInt8 := 167 :: 255 :: 200 :: t_Tx_program_103
abbrev t_Tx_program_97 : List UInt8 := 181 :: 1 :: 25 :: t_Tx_program_100
abbrev t_Tx_program_96 : List UInt8 := 96 :: t_Tx_program_97
abbrev t_Tx_program_95 : List UInt8 := 4 :: t_Tx_program_96
abbrev t_Tx_program_92 : List UInt8 := 180 :: 1 :: 25 :: t_Tx_program_95
abbrev t_Tx_program_91 : List UInt8 := 89 :: t_Tx_program_92
abbrev t_Tx_program_90 : List UInt8 := 42 :: t_Tx_program_91
abbrev t_Tx_program_89 : List UInt8 := 79 :: t_Tx_program_90
abbrev t_Tx_program_88 : List UInt8 := 28 :: t_Tx_program_89
abbrev t_Tx_program_87 : List UInt8 := 96 :: t_Tx_program_88
abbrev t_Tx_program_84 : List UInt8 := 180 :: 1 :: 25 :: t_Tx_program_87
abbrev t_Tx_program_83 : List UInt8 := 42 :: t_Tx_program_84
abbrev t_Tx_program_80 : List UInt8 := 182 :: 0 :: 195 :: t_Tx_program_83
abbrev t_Tx_program_79 : List UInt8 := 42 :: t_Tx_program_80
abbrev t_Tx_program_76 : List UInt8 := 180 :: 0 :: 38 :: t_Tx_program_79
abbrev t_Tx_program_75 : List UInt8 := 42 :: t_Tx_program_76
abbrev t_Tx_program_72 : List UInt8 := 153 :: 0 :: 28 :: t_Tx_program_75
abbrev t_Tx_program_71 : List UInt8 := 27 :: t_Tx_program_72
abbrev t_Tx_program_70 : List UInt8 := 60 :: t_Tx_program_71
abbrev t_Tx_program_69 : List UInt8 := 3 :: t_Tx_program_70
abbrev t_Tx_program_66 : List UInt8 := 167 :: 0 :: 4 :: t_Tx_program_69
abbrev t_Tx_program_65 : List UInt8 := 4 :: t_Tx_program_66
abbrev t_Tx_program_62 : List UInt8 := 155 :: 0 :: 7 :: t_Tx_program_65
abbrev t_Tx_program_61 : List UInt8 := 28 :: t_Tx_program_62
abbrev t_Tx_program_60 : List UInt8 := 61 :: t_Tx_program_61
abbrev t_Tx_program_57 : List UInt8 := 182 :: 0 :: 255 :: t_Tx_program_60
abbrev t_Tx_program_56 : List UInt8 := 42 :: t_Tx_program_57
abbrev t_Tx_program_53 : List UInt8 := 159 :: 0 :: 50 :: t_Tx_program_56
abbrev t_Tx_program_52 : List UInt8 := 4 :: t_Tx_program_53
abbrev t_Tx_program_49 : List UInt8 := 180 :: 0 :: 146 :: t_Tx_program_52
abbrev t_Tx_program_48 : List UInt8 := 42 :: t_Tx_program_49
abbrev t_Tx_program_45 : List UInt8 := 153 :: 0 :: 58 :: t_Tx_program_48
abbrev t_Tx_program_44 : List UInt8 := 27 :: t_Tx_program_45
abbrev t_Tx_program_41 : List UInt8 := 167 :: 255 :: 220 :: t_Tx_program_44
abbrev t_Tx_program_40 : List UInt8 := 60 :: t_Tx_program_41
abbrev t_Tx_program_37 : List UInt8 := 182 :: 1 :: 28 :: t_Tx_program_40
abbrev t_Tx_program_36 : List UInt8 := 42 :: t_Tx_program_37
abbrev t_Tx_program_33 : List UInt8 := 153 :: 0 :: 11 :: t_Tx_program_36
abbrev t_Tx_program_30 : List UInt8 := 182 :: 0 :: 237 :: t_Tx_program_33
abbrev t_Tx_program_28 : List UInt8 := 16 :: 24 :: t_Tx_program_30
abbrev t_Tx_program_27 : List UInt8 := 42 :: t_Tx_program_28
abbrev t_Tx_program_24 : List UInt8 := 154 :: 0 :: 12 :: t_Tx_program_27
abbrev t_Tx_program_21 : List UInt8 := 182 :: 0 :: 237 :: t_Tx_program_24
abbrev t_Tx_program_19 : List UInt8 := 16 :: 31 :: t_Tx_program_21
abbrev t_Tx_program_18 : List UInt8 := 42 :: t_Tx_program_19
abbrev t_Tx_program_15 : List UInt8 := 154 :: 0 :: 21 :: t_Tx_program_18
abbrev t_Tx_program_12 : List UInt8 := 182 :: 0 :: 237 :: t_Tx_program_15
abbrev t_Tx_program_10 : List UInt8 := 16 :: 30 :: t_Tx_program_12
abbrev t_Tx_program_9 : List UInt8 := 42 :: t_Tx_program_10
abbrev t_Tx_program_6 : List UInt8 := 153 :: 0 :: 38 :: t_Tx_program_9
abbrev t_Tx_program_5 : List UInt8 := 27 :: t_Tx_program_6
abbrev t_Tx_program_4 : List UInt8 := 60 :: t_Tx_program_5
abbrev t_Tx_program_1 : List UInt8 := 182 :: 0 :: 182 :: t_Tx_program_4
abbrev t_Tx_program_0 : List UInt8 := 42 :: t_Tx_program_1
theorem a_Tx_program_0 : dk_at b_Tx_program 0 t_Tx_program_0 := dk_start (by decide +kernel)
theorem a_Tx_program_1 : dk_at b_Tx_program 1 t_Tx_program_1 := dk_go 1 a_Tx_program_0 rfl
theorem a_Tx_program_4 : dk_at b_Tx_program 4 t_Tx_program_4 := dk_go 3 a_Tx_program_1 rfl
theorem a_Tx_program_5 : dk_at b_Tx_program 5 t_Tx_program_5 := dk_go 1 a_Tx_program_4 rfl
theorem a_Tx_program_6 : dk_at b_Tx_program 6 t_Tx_program_6 := dk_go 1 a_Tx_program_5 rfl
theorem a_Tx_program_9 : dk_at b_Tx_program 9 t_Tx_program_9 := dk_go 3 a_Tx_program_6 rfl
theorem a_Tx_program_10 : dk_at b_Tx_program 10 t_Tx_program_10 := dk_go 1 a_Tx_program_9 rfl
theorem a_Tx_program_12 : dk_at b_Tx_program 12 t_Tx_program_12 := dk_go 2 a_Tx_program_10 rfl
theorem a_Tx_program_15 : dk_at b_Tx_program 15 t_Tx_program_15 := dk_go 3 a_Tx_program_12 rfl
theorem a_Tx_program_18 : dk_at b_Tx_program 18 t_Tx_program_18 := dk_go 3 a_Tx_program_15 rfl
theorem a_Tx_program_19 : dk_at b_Tx_program 19 t_Tx_program_19 := dk_go 1 a_Tx_program_18 rfl
theorem a_Tx_program_21 : dk_at b_Tx_program 21 t_Tx_program_21 := dk_go 2 a_Tx_program_19 rfl
theorem a_Tx_program_24 : dk_at b_Tx_program 24 t_Tx_program_24 := dk_go 3 a_Tx_program_21 rfl
theorem a_Tx_program_27 : dk_at b_Tx_program 27 t_Tx_program_27 := dk_go 3 a_Tx_program_24 rfl
theorem a_Tx_program_28 : dk_at b_Tx_program 28 t_Tx_program_28 := dk_go 1 a_Tx_program_27 rfl
theorem a_Tx_program_30 : dk_at b_Tx_program 30 t_Tx_program_30 := dk_go 2 a_Tx_program_28 rfl
theorem a_Tx_program_33 : dk_at b_Tx_program 33 t_Tx_program_33 := dk_go 3 a_Tx_program_30 rfl
theorem a_Tx_program_36 : dk_at b_Tx_program 36 t_Tx_program_36 := dk_go 3 a_Tx_program_33 rfl
theorem a_Tx_program_37 : dk_at b_Tx_program 37 t_Tx_program_37 := dk_go 1 a_Tx_program_36 rfl
theorem a_Tx_program_40 : dk_at b_Tx_program 40 t_Tx_program_40 := dk_go 3 a_Tx_program_37 rfl
theorem a_Tx_program_41 : dk_at b_Tx_program 41 t_Tx_program_41 := dk_go 1 a_Tx_program_40 rfl
theorem a_Tx_program_44 : dk_at b_Tx_program 44 t_Tx_program_44 := dk_go 3 a_Tx_program_41 rfl
theorem a_Tx_program_45 : dk_at b_Tx_program 45 t_Tx_program_45 := dk_go 1 a_Tx_program_44 rfl
theorem a_Tx_program_48 : dk_at b_Tx_program 48 t_Tx_program_48 := dk_go 3 a_Tx_program_45 rfl
theorem a_Tx_program_49 : dk_at b_Tx_program 49 t_Tx_program_49 := dk_go 1 a_Tx_program_48 rfl
theorem a_Tx_program_52 : dk_at b_Tx_program 52 t_Tx_program_52 := dk_go 3 a_Tx_program_49 rfl
theorem a_Tx_program_53 : dk_at b_Tx_program 53 t_Tx_program_53 := dk_go 1 a_Tx_program_52 rfl
theorem a_Tx_program_56 : dk_at b_Tx_program 56 t_Tx_program_56 := dk_go 3 a_Tx_program_53 rfl
theorem a_Tx_program_57 : dk_at b_Tx_program 57 t_Tx_program_57 := dk_go 1 a_Tx_program_56 rfl
theorem a_Tx_program_60 : dk_at b_Tx_program 60 t_Tx_program_60 := dk_go 3 a_Tx_program_57 rfl
theorem a_Tx_program_61 : dk_at b_Tx_program 61 t_Tx_program_61 := dk_go 1 a_Tx_program_60 rfl
theorem a_Tx_program_62 : dk_at b_Tx_program 62 t_Tx_program_62 := dk_go 1 a_Tx_program_61 rfl
theorem a_Tx_program_65 : dk_at b_Tx_program 65 t_Tx_program_65 := dk_go 3 a_Tx_program_62 rfl
theorem a_Tx_program_66 : dk_at b_Tx_program 66 t_Tx_program_66 := dk_go 1 a_Tx_program_65 rfl
theorem a_Tx_program_69 : dk_at b_Tx_program 69 t_Tx_program_69 := dk_go 3 a_Tx_program_66 rfl
theorem a_Tx_program_70 : dk_at b_Tx_program 70 t_Tx_program_70 := dk_go 1 a_Tx_program_69 rfl
theorem a_Tx_program_71 : dk_at b_Tx_program 71 t_Tx_program_71 := dk_go 1 a_Tx_program_70 rfl
theorem a_Tx_program_72 : dk_at b_Tx_program 72 t_Tx_program_72 := dk_go 1 a_Tx_program_71 rfl
theorem a_Tx_program_75 : dk_at b_Tx_program 75 t_Tx_program_75 := dk_go 3 a_Tx_program_72 rfl
theorem a_Tx_program_76 : dk_at b_Tx_program 76 t_Tx_program_76 := dk_go 1 a_Tx_program_75 rfl
theorem a_Tx_program_79 : dk_at b_Tx_program 79 t_Tx_program_79 := dk_go 3 a_Tx_program_76 rfl
theorem a_Tx_program_80 : dk_at b_Tx_program 80 t_Tx_program_80 := dk_go 1 a_Tx_program_79 rfl
theorem a_Tx_program_83 : dk_at b_Tx_program 83 t_Tx_program_83 := dk_go 3 a_Tx_program_80 rfl
theorem a_Tx_program_84 : dk_at b_Tx_program 84 t_Tx_program_84 := dk_go 1 a_Tx_program_83 rfl
theorem a_Tx_program_87 : dk_at b_Tx_program 87 t_Tx_program_87 := dk_go 3 a_Tx_program_84 rfl
theorem a_Tx_program_88 : dk_at b_Tx_program 88 t_Tx_program_88 := dk_go 1 a_Tx_program_87 rfl
theorem a_Tx_program_89 : dk_at b_Tx_program 89 t_Tx_program_89 := dk_go 1 a_Tx_program_88 rfl
theorem a_Tx_program_90 : dk_at b_Tx_program 90 t_Tx_program_90 := dk_go 1 a_Tx_program_89 rfl
theorem a_Tx_program_91 : dk_at b_Tx_program 91 t_Tx_program_91 := dk_go 1 a_Tx_program_90 rfl
theorem a_Tx_program_92 : dk_at b_Tx_program 92 t_Tx_program_92 := dk_go 1 a_Tx_program_91 rfl
theorem a_Tx_program_95 : dk_at b_Tx_program 95 t_Tx_program_95 := dk_go 3 a_Tx_program_92 rfl
theorem a_Tx_program_96 : dk_at b_Tx_program 96 t_Tx_program_96 := dk_go 1 a_Tx_program_95 rfl
theorem a_Tx_program_97 : dk_at b_Tx_program 97 t_Tx_program_97 := dk_go 1 a_Tx_program_96 rfl
theorem a_Tx_program_100 : dk_at b_Tx_program 100 t_Tx_program_100 := dk_go 3 a_Tx_program_97 rfl
theorem a_Tx_program_103 : dk_at b_Tx_program 103 t_Tx_program_103 := dk_go 3 a_Tx_program_100 rfl
theorem a_Tx_program_104 : dk_at b_Tx_program 104 t_Tx_program_104 := dk_go 1 a_Tx_program_103 rfl
theorem d_Tx_program_0 : decode b_Tx_program 0 = .ok (.aload_n 0, 1) := dk_0 a_Tx_program_0 (dko_42 _)
theorem d_Tx_program_1 : decode b_Tx_program 1 = .ok (.invokevirtual 182, 3) := dk_U2 a_Tx_program_1 (dko_182 _) rfl
theorem d_Tx_program_4 : decode b_Tx_program 4 = .ok (.istore_n 1, 1) := dk_0 a_Tx_program_4 (dko_60 _)
theorem d_Tx_program_5 : decode b_Tx_program 5 = .ok (.iload_n 1, 1) := dk_0 a_Tx_program_5 (dko_27 _)
theorem d_Tx_program_6 : decode b_Tx_program 6 = .ok (.ifCond .eq 38, 3) := dk_S2 a_Tx_program_6 (dko_153 _) (by decide +kernel)
theorem d_Tx_program_9 : decode b_Tx_program 9 = .ok (.aload_n 0, 1) := dk_0 a_Tx_program_9 (dko_42 _)
theorem d_Tx_program_10 : decode b_Tx_program 10 = .ok (.bipush 30, 2) := dk_S1 a_Tx_program_10 (dko_16 _) (by decide +kernel)
theorem d_Tx_program_12 : decode b_Tx_program 12 = .ok (.invokevirtual 237, 3) := dk_U2 a_Tx_program_12 (dko_182 _) rfl
theorem d_Tx_program_15 : decode b_Tx_program 15 = .ok (.ifCond .ne 21, 3) := dk_S2 a_Tx_program_15 (dko_154 _) (by decide +kernel)
theorem d_Tx_program_18 : decode b_Tx_program 18 = .ok (.aload_n 0, 1) := dk_0 a_Tx_program_18 (dko_42 _)
theorem d_Tx_program_19 : decode b_Tx_program 19 = .ok (.bipush 31, 2) := dk_S1 a_Tx_program_19 (dko_16 _) (by decide +kernel)
theorem d_Tx_program_21 : decode b_Tx_program 21 = .ok (.invokevirtual 237, 3) := dk_U2 a_Tx_program_21 (dko_182 _) rfl
theorem d_Tx_program_24 : decode b_Tx_program 24 = .ok (.ifCond .ne 12, 3) := dk_S2 a_Tx_program_24 (dko_154 _) (by decide +kernel)
theorem d_Tx_program_27 : decode b_Tx_program 27 = .ok (.aload_n 0, 1) := dk_0 a_Tx_program_27 (dko_42 _)
theorem d_Tx_program_28 : decode b_Tx_program 28 = .ok (.bipush 24, 2) := dk_S1 a_Tx_program_28 (dko_16 _) (by decide +kernel)
theorem d_Tx_program_30 : decode b_Tx_program 30 = .ok (.invokevirtual 237, 3) := dk_U2 a_Tx_program_30 (dko_182 _) rfl
theorem d_Tx_program_33 : decode b_Tx_program 33 = .ok (.ifCond .eq 11, 3) := dk_S2 a_Tx_program_33 (dko_153 _) (by decide +kernel)
theorem d_Tx_program_44 : decode b_Tx_program 44 = .ok (.iload_n 1, 1) := dk_0 a_Tx_program_44 (dko_27 _)
theorem d_Tx_program_45 : decode b_Tx_program 45 = .ok (.ifCond .eq 58, 3) := dk_S2 a_Tx_program_45 (dko_153 _) (by decide +kernel)
theorem d_Tx_program_48 : decode b_Tx_program 48 = .ok (.aload_n 0, 1) := dk_0 a_Tx_program_48 (dko_42 _)
theorem d_Tx_program_49 : decode b_Tx_program 49 = .ok (.getfield 146, 3) := dk_U2 a_Tx_program_49 (dko_180 _) rfl
theorem d_Tx_program_52 : decode b_Tx_program 52 = .ok (.iconst 1, 1) := dk_0 a_Tx_program_52 (dko_4 _)
theorem d_Tx_program_53 : decode b_Tx_program 53 = .ok (.if_icmp .eq 50, 3) := dk_S2 a_Tx_program_53 (dko_159 _) (by decide +kernel)
theorem d_Tx_program_103 : decode b_Tx_program 103 = .ok (.iload_n 1, 1) := dk_0 a_Tx_program_103 (dko_27 _)
theorem d_Tx_program_104 : decode b_Tx_program 104 = .ok (.ireturn, 1) := dk_0 a_Tx_program_104 (dko_172 _)
set_option maxHeartbeats 4000000 in
set_option maxRecDepth 100000 in
theorem c_Tx_program (l : Launch) (dC : Nat → ClassId) (dI : Nat → Nat → Nat) (cI cB cZ cJ : ClassId) (oT : Nat) (ft : List Value) (ht_size : fx ft 1 (.int 0)) (ht_place : fx ft 2 (.int 0)) (ht_nowLine : fx ft 3 (.int 1)) (ht_token : fx ft 4 (.int 0)) (ht_begin : fx ft 5 (.int 0)) (ht_end : fx ft 6 (.int 0)) (ht_tokenLine : fx ft 7 (.int 0)) (ht_wrong : fx ft 10 (.int (-1))) (ht_half : fx ft 12 (.int 0)) (ht_nodes : fx ft 13 (.int 0)) (ht_topsMade : fx ft 23 (.int 0)) (ht_names : fx ft 24 (.int 0)) (ht_nodeCount : fx ft 30 (.int 0)) (ht_topCount : fx ft 31 (.int 0)) (ht_nameCount : fx ft 32 (.int 0)) (ht_statements : fx ft 33 (.int 0)) (ht_made : fx ft 38 (.int 0)) (sz : Nat) : Met l y_Tx_program w_Tx_program ({ frames := 2, cells := 0, slots := 0, locals := 43 }) (va_Pc [.ref oT] (PW dC dI cI cB cZ cJ [(oT, .inr (13, ft))] sz)) (va_Qi (fun (r : Int32) (_ : Unit) => r = 1) (fun (_ : Unit) (t : State) => ∃ (n_ft : List Value), fx n_ft 1 (.int 0) ∧ fx n_ft 2 (.int 0) ∧ fx n_ft 3 (.int 1) ∧ fx n_ft 4 (.int 1) ∧ fx n_ft 5 (.int 0) ∧ fx n_ft 6 (.int 0) ∧ fx n_ft 7 (.int 1) ∧ fx n_ft 10 (.int (-1)) ∧ fx n_ft 12 (.int 0) ∧ fx n_ft 13 (.int 0) ∧ fx n_ft 23 (.int 0) ∧ fx n_ft 24 (.int 0) ∧ fx n_ft 30 (.int 0) ∧ fx n_ft 31 (.int 0) ∧ fx n_ft 32 (.int 0) ∧ fx n_ft 33 (.int 0) ∧ fx n_ft 38 (.int 0) ∧ va_P (dC, dI) classes [(oT, .inr (13, n_ft))] t.heap ∧ va_D (va_A [(oT, .inr (13, ft))] sz) [(oT, .inr (13, n_ft))]) (va_A [(oT, .inr (13, ft))] sz)) 0 0 (va_A [(oT, .inr (13, ft))] sz) := by
  refine Met.ofW (cc := b_Tx_program) (maxL := 3) (ret := (some .boolean)) (by decide) rfl ?_
  intro p e s m args below meth c s₁ B hml hv
  obtain ⟨rfl, hsz, hP, hK, hD⟩ := hv
  have hx := B.exec
  have hb := B.bytes
  have hr := B.returns
  have hts := atoms_spec (ws := w_Tx_program) B.pre
  have hown : s.vm.findClass R_Tx = some m.cls := findClass_of_methodNamed B.named
  have hlocks := B.notSynchronized
  subst hsz
  have hD := hD.self (sz := s.heap.size)
  generalize hAe : va_A [(oT, .inr (13, ft))] s.heap.size = A at hD ⊢
  have hA : ∀ q : Nat, s.heap.size ≤ q → A q := fun q h => by rw [← hAe]; exact Or.inr h
  have hS : va_S A s.heap s.heap [] := va_S.rf
  have hP : va_P (dC, dI) classes [(oT, .inr (13, ft))] s.heap := hP
  have hl := lv_entry ([.ref oT]) (n := 3) (Nat.le_of_ble_eq_true rfl)
  rw [lg_entry_eq]
  generalize (lg_sl ([.ref oT]) ++ List.replicate (3 - (lg_sl ([.ref oT])).length) Slot.unset).toArray = ls at hl ⊢
  have hl : lv_has ls 3 [(0, .ref oT)] := hl
  refine lv_aload_n hx hb d_Tx_program_0 rfl (lv_at hl 0 rfl) ?_
  have hPc := hP.sub (ws' := [(oT, .inr (13, ft))]) [0] rfl
  have hDc := hD.sub (ws' := [(oT, .inr (13, ft))]) [0] (by decide) rfl
  have hFc := va_free (wc := [(oT, .inr (13, ft))]) hD hS hA [0] rfl
  refine va_calli (va_runV (C := R_Tx) (As := []) (rest := []) ⟨hx, hb, hml, hown, hts⟩ (c_Tx_go l dC dI cI cB cZ cJ oT ft ht_size ht_place ht_nowLine ht_token ht_begin ht_end ht_tokenLine ht_wrong ht_half ht_nodes ht_topsMade ht_names ht_nodeCount ht_topCount ht_nameCount ht_statements ht_made s.heap.size) (cwV 0 hts (tb_V mw_2182 mw_2184 sl_111 mw_19 mw_2185) rfl rfl rfl ⟨rfl, by decide +kernel, by decide +kernel, by decide +kernel⟩ ⟨(Nat.le_of_ble_eq_true rfl), (Nat.le_of_ble_eq_true rfl)⟩) ⟨pw_blind, va_recv (q := (R_Tx, F_Tx, 39)) hK.1 hP (ci := 13) (q0 := 0) rfl rfl, pw_pre hPc hK hDc⟩ rfl rfl hl.1 rfl (lv_room (Nat.le_of_ble_eq_true rfl)) d_Tx_program_1 ⟨(Nat.le_of_ble_eq_true rfl), (Nat.le_of_ble_eq_true rfl)⟩) hS (fun q _ h => hFc q h) hFc (fun r u t H locs ht hvm hw hB hz1 hk1 hS => ?_)
  obtain ⟨s1_1_oT, k1_1_oT_1, k1_1_oT_2, k1_1_oT_3, k1_1_oT_4, k1_1_oT_5, k1_1_oT_6, k1_1_oT_7, k1_1_oT_10, k1_1_oT_12, k1_1_oT_13, k1_1_oT_23, k1_1_oT_24, k1_1_oT_30, k1_1_oT_31, k1_1_oT_32, k1_1_oT_33, k1_1_oT_38, hP1, hD1⟩ := hB
  rw [ht] at hP1
  obtain ⟨hP, hD⟩ := va_join (wr := []) (w1 := [(oT, .inr (13, s1_1_oT))]) hP hD [0] [] rfl rfl (by decide) (by decide) hk1 hFc hP1 hD1
  have hP : va_P (dC, dI) classes [(oT, .inr (13, s1_1_oT))] H := hP
  have hD : va_D A [(oT, .inr (13, s1_1_oT))] := hD
  obtain rfl : r = 1 := hw
  refine lv_istore_n hx hb d_Tx_program_4 rfl hl (by decide) rfl (fun ls hl => ?_)
  have hl : lv_has ls 3 [(1, .int 1), (0, .ref oT)] := hl
  refine lv_iload_n hx hb d_Tx_program_5 rfl (lv_at hl 0 rfl) ?_
  refine lv_if_eq (tgt := 44) hx hb d_Tx_program_6 (by decide) (fun h => absurd h (by decide)) (fun _ => ?_)
  refine lv_aload_n hx hb d_Tx_program_9 rfl (lv_at hl 1 rfl) ?_
  refine lv_bipush (v := 30) hx hb d_Tx_program_10 (by decide) ?_
  have hPc := hP.sub (ws' := [(oT, .inr (13, s1_1_oT))]) [0] rfl
  have hDc := hD.sub (ws' := [(oT, .inr (13, s1_1_oT))]) [0] (by decide) rfl
  have hFc := pu_free hS hA
  refine va_calli (va_runV (C := R_Tx) (As := [.int 30]) (rest := []) ⟨hx, hb, hml, hown, hts⟩ (c_Tx_isWord_30 l dC dI cI cB cZ cJ oT s1_1_oT k1_1_oT_4 H.size) (cwV 1 hts (tb_V mw_2239 mw_2241 sl_116 mw_19 mw_2242) rfl rfl rfl ⟨rfl, by decide +kernel, by decide +kernel, by decide +kernel⟩ ⟨(Nat.le_of_ble_eq_true rfl), (Nat.le_of_ble_eq_true rfl)⟩) ⟨pw_blind, va_recv (q := (R_Tx, F_Tx, 39)) hK.1 hP (ci := 13) (q0 := 0) rfl rfl, pw_pre hPc hK hDc⟩ rfl rfl hl.1 rfl (lv_room (Nat.le_of_ble_eq_true rfl)) d_Tx_program_12 ⟨(Nat.le_of_ble_eq_true rfl), (Nat.le_of_ble_eq_true rfl)⟩) hS (fun q _ h => hFc q h) hFc (fun r u t H locs ht hvm hw hB hz1 hk1 hS => ?_)
  have hP := pu_kept hP hk1
  obtain rfl : r = 0 := hw
  refine lv_if_ne (tgt := 36) hx hb d_Tx_program_15 (by decide) (fun h => absurd rfl h) (fun _ => ?_)
  refine lv_aload_n hx hb d_Tx_program_18 rfl (lv_at hl 1 rfl) ?_
  refine lv_bipush (v := 31) hx hb d_Tx_program_19 (by decide) ?_
  have hPc := hP.sub (ws' := [(oT, .inr (13, s1_1_oT))]) [0] rfl
  have hDc := hD.sub (ws' := [(oT, .inr (13, s1_1_oT))]) [0] (by decide) rfl
  have hFc := pu_free hS hA
  refine va_calli (va_runV (C := R_Tx) (As := [.int 31]) (rest := []) ⟨hx, hb, hml, hown, hts⟩ (c_Tx_isWord_31 l dC dI cI cB cZ cJ oT s1_1_oT k1_1_oT_4 H.size) (cwV 1 hts (tb_V mw_2239 mw_2241 sl_116 mw_19 mw_2242) rfl rfl rfl ⟨rfl, by decide +kernel, by decide +kernel, by decide +kernel⟩ ⟨(Nat.le_of_ble_eq_true rfl), (Nat.le_of_ble_eq_true rfl)⟩) ⟨pw_blind, va_recv (q := (R_Tx, F_Tx, 39)) hK.1 hP (ci := 13) (q0 := 0) rfl rfl, pw_pre hPc hK hDc⟩ rfl rfl hl.1 rfl (lv_room (Nat.le_of_ble_eq_true rfl)) d_Tx_program_21 ⟨(Nat.le_of_ble_eq_true rfl), (Nat.le_of_ble_eq_true rfl)⟩) hS (fun q _ h => hFc q h) hFc (fun r u t H locs ht hvm hw hB hz1 hk1 hS => ?_)
  have hP := pu_kept hP hk1
  obtain rfl : r = 0 := hw
  refine lv_if_ne (tgt := 36) hx hb d_Tx_program_24 (by decide) (fun h => absurd rfl h) (fun _ => ?_)
  refine lv_aload_n hx hb d_Tx_program_27 rfl (lv_at hl 1 rfl) ?_
  refine lv_bipush (v := 24) hx hb d_Tx_program_28 (by decide) ?_
  have hPc := hP.sub (ws' := [(oT, .inr (13, s1_1_oT))]) [0] rfl
  have hDc := hD.sub (ws' := [(oT, .inr (13, s1_1_oT))]) [0] (by decide) rfl
  have hFc := pu_free hS hA
  refine va_calli (va_runV (C := R_Tx) (As := [.int 24]) (rest := []) ⟨hx, hb, hml, hown, hts⟩ (c_Tx_isWord_24 l dC dI cI cB cZ cJ oT s1_1_oT k1_1_oT_4 H.size) (cwV 1 hts (tb_V mw_2239 mw_2241 sl_116 mw_19 mw_2242) rfl rfl rfl ⟨rfl, by decide +kernel, by decide +kernel, by decide +kernel⟩ ⟨(Nat.le_of_ble_eq_true rfl), (Nat.le_of_ble_eq_true rfl)⟩) ⟨pw_blind, va_recv (q := (R_Tx, F_Tx, 39)) hK.1 hP (ci := 13) (q0 := 0) rfl rfl, pw_pre hPc hK hDc⟩ rfl rfl hl.1 rfl (lv_room (Nat.le_of_ble_eq_true rfl)) d_Tx_program_30 ⟨(Nat.le_of_ble_eq_true rfl), (Nat.le_of_ble_eq_true rfl)⟩) hS (fun q _ h => hFc q h) hFc (fun r u t H locs ht hvm hw hB hz1 hk1 hS => ?_)
  have hP := pu_kept hP hk1
  obtain rfl : r = 0 := hw
  refine lv_if_eq (tgt := 44) hx hb d_Tx_program_33 (by decide) (fun _ => ?_) (fun h => absurd (by decide) h)
  refine lv_iload_n hx hb d_Tx_program_44 rfl (lv_at hl 0 rfl) ?_
  refine lv_if_eq (tgt := 103) hx hb d_Tx_program_45 (by decide) (fun h => absurd h (by decide)) (fun _ => ?_)
  refine lv_aload_n hx hb d_Tx_program_48 rfl (lv_at hl 1 rfl) ?_
  refine va_get (D := (dC, dI)) (ci := 13) (v := .int 1) (C := R_Tx) (T := F_Tx) (N := 39) hx hb hts (fun w h => List.mem_cons_of_mem _ (in_Tx w h)) hown hK.1 hP 0 rfl rfl 4 (by decide) (hts _ (List.mem_cons_of_mem _ mw_1583)) (fun _ h9 => h9) k1_1_oT_4 d_Tx_program_49 ?_
  refine lv_iconst (v := 1) hx hb d_Tx_program_52 (by decide) ?_
  refine lv_icmp_eq (tgt := 103) hx hb d_Tx_program_53 (by decide) (fun _ => ?_) (fun h => absurd (by decide) h)
  refine lv_iload_n hx hb d_Tx_program_103 rfl (lv_at hl 0 rfl) ?_
  exact W.zret (v := 1) (ty := .boolean) hx hb hr (by decide) (fun t ht hW => ⟨⟨_, (), rfl, (rfl), ⟨s1_1_oT, k1_1_oT_1, k1_1_oT_2, k1_1_oT_3, k1_1_oT_4, k1_1_oT_5, k1_1_oT_6, k1_1_oT_7, k1_1_oT_10, k1_1_oT_12, k1_1_oT_13, k1_1_oT_23, k1_1_oT_24, k1_1_oT_30, k1_1_oT_31, k1_1_oT_32, k1_1_oT_33, k1_1_oT_38, by rw [ht]; exact hP, hD⟩⟩, hS.F ht⟩) hS.2.2 d_Tx_program_104
abbrev t_Tx_isSmall_434 : List UInt8 := 172 :: []
abbrev t_Tx_isSmall_433 : List UInt8 := 3 :: t_Tx_isSmall_434
abbrev t_Tx_isSmall_430 : List UInt8 := 167 :: 0 :: 4 :: t_Tx_isSmall_433
abbrev t_Tx_isSmall_429 : List UInt8 := 4 :: t_Tx_isSmall_430
abbrev t_Tx_isSmall_426 : List UInt8 := 163 :: 0 :: 7 :: t_Tx_isSmall_429
abbrev t_Tx_isSmall_423 : List UInt8 := 17 :: 1 :: 244 :: t_Tx_isSmall_426
abbrev t_Tx_isSmall_422 : List UInt8 := 27 :: t_Tx_isSmall_423
abbrev t_Tx_isSmall_419 : List UInt8 := 181 :: 0 :: 159 :: t_Tx_isSmall_422
abbrev t_Tx_isSmall_416 : List UInt8 := 180 :: 0 :: 159 :: t_Tx_isSmall_419
abbrev t_Tx_isSmall_415 : List UInt8 := 42 :: t_Tx_isSmall_416
abbrev t_Tx_isSmall_412 : List UInt8 := 167 :: 0 :: 7 :: t_Tx_isSmall_415
abbrev t_Tx_isSmall_409 : List UInt8 := 180 :: 0 :: 65 :: t_Tx_isSmall_412
abbrev t_Tx_isSmall_408 : List UInt8 := 42 :: t_Tx_isSmall_409
abbrev t_Tx_isSmall_405 : List UInt8 := 164 :: 0 :: 10 :: t_Tx_isSmall_408
abbrev t_Tx_isSmall_402 : List UInt8 := 17 :: 1 :: 244 :: t_Tx_isSmall_405
abbrev t_Tx_isSmall_401 : List UInt8 := 27 :: t_Tx_isSmall_402
abbrev t_Tx_isSmall_400 : List UInt8 := 42 :: t_Tx_isSmall_401
abbrev t_Tx_isSmall_397 : List UInt8 := 167 :: 255 :: 180 :: t_Tx_isSmall_400
abbrev t_Tx_isSmall_394 : List UInt8 := 132 :: 2 :: 1 :: t_Tx_isSmall_397
abbrev t_Tx_isSmall_393 : List UInt8 := 60 :: t_Tx_isSmall_394
abbrev t_Tx_isSmall_392 : List UInt8 := 96 :: t_Tx_isSmall_393
abbrev t_Tx_isSmall_391 : List UInt8 := 46 :: t_Tx_isSmall_392
abbrev t_Tx_isSmall_390 : List UInt8 := 29 :: t_Tx_isSmall_391
abbrev t_Tx_isSmall_387 : List UInt8 := 180 :: 0 :: 59 :: t_Tx_isSmall_390
abbrev t_Tx_isSmall_386 : List UInt8 := 42 :: t_Tx_isSmall_387
abbrev t_Tx_isSmall_383 : List UInt8 := 167 :: 0 :: 9 :: t_Tx_isSmall_386
abbrev t_Tx_isSmall_380 : List UInt8 := 17 :: 1 :: 245 :: t_Tx_isSmall_383
abbrev t_Tx_isSmall_377 : List UInt8 := 164 :: 0 :: 9 :: t_Tx_isSmall_380
abbrev t_Tx_isSmall_375 : List UInt8 := 16 :: 40 :: t_Tx_isSmall_377
abbrev t_Tx_isSmall_374 : List UInt8 := 46 :: t_Tx_isSmall_375
abbrev t_Tx_isSmall_373 : List UInt8 := 29 :: t_Tx_isSmall_374
abbrev t_Tx_isSmall_370 : List UInt8 := 180 :: 0 :: 62 :: t_Tx_isSmall_373
abbrev t_Tx_isSmall_369 : List UInt8 := 42 :: t_Tx_isSmall_370
abbrev t_Tx_isSmall_366 : List UInt8 := 167 :: 0 :: 26 :: t_Tx_isSmall_369
abbrev t_Tx_isSmall_365 : List UInt8 := 3 :: t_Tx_isSmall_366
abbrev t_Tx_isSmall_362 : List UInt8 := 160 :: 0 :: 7 :: t_Tx_isSmall_365
abbrev t_Tx_isSmall_360 : List UInt8 := 16 :: 24 :: t_Tx_isSmall_362
abbrev t_Tx_isSmall_359 : List UInt8 := 46 :: t_Tx_isSmall_360
abbrev t_Tx_isSmall_358 : List UInt8 := 96 :: t_Tx_isSmall_359
abbrev t_Tx_isSmall_357 : List UInt8 := 29 :: t_Tx_isSmall_358
abbrev t_Tx_isSmall_354 : List UInt8 := 182 :: 0 :: 195 :: t_Tx_isSmall_357
abbrev t_Tx_isSmall_353 : List UInt8 := 42 :: t_Tx_isSmall_354
abbrev t_Tx_isSmall_350 : List UInt8 := 180 :: 0 :: 15 :: t_Tx_isSmall_353
abbrev t_Tx_isSmall_349 : List UInt8 := 42 :: t_Tx_isSmall_350
abbrev t_Tx_isSmall_348 : List UInt8 := 27 :: t_Tx_isSmall_349
abbrev t_Tx_isSmall_347 : List UInt8 := 62 :: t_Tx_isSmall_348
abbrev t_Tx_isSmall_346 : List UInt8 := 46 :: t_Tx_isSmall_347
abbrev t_Tx_isSmall_345 : List UInt8 := 96 :: t_Tx_isSmall_346
abbrev t_Tx_isSmall_344 : List UInt8 := 28 :: t_Tx_isSmall_345
abbrev t_Tx_isSmall_341 : List UInt8 := 182 :: 0 :: 195 :: t_Tx_isSmall_344
abbrev t_Tx_isSmall_340 : List UInt8 := 42 :: t_Tx_isSmall_341
abbrev t_Tx_isSmall_337 : List UInt8 := 180 :: 0 :: 38 :: t_Tx_isSmall_340
abbrev t_Tx_isSmall_336 : List UInt8 := 42 :: t_Tx_isSmall_337
abbrev t_Tx_isSmall_333 : List UInt8 := 163 :: 0 :: 67 :: t_Tx_isSmall_336
abbrev t_Tx_isSmall_330 : List UInt8 := 17 :: 1 :: 244 :: t_Tx_isSmall_333
abbrev t_Tx_isSmall_329 : List UInt8 := 27 :: t_Tx_isSmall_330
abbrev t_Tx_isSmall_326 : List UInt8 := 162 :: 0 :: 74 :: t_Tx_isSmall_329
abbrev t_Tx_isSmall_323 : List UInt8 := 180 :: 1 :: 25 :: t_Tx_isSmall_326
abbrev t_Tx_isSmall_322 : List UInt8 := 42 :: t_Tx_isSmall_323
abbrev t_Tx_isSmall_321 : List UInt8 := 28 :: t_Tx_isSmall_322
abbrev t_Tx_isSmall_320 : List UInt8 := 61 :: t_Tx_isSmall_321
abbrev t_Tx_isSmall_319 : List UInt8 := 3 :: t_Tx_isSmall_320
abbrev t_Tx_isSmall_316 : List UInt8 := 167 :: 254 :: 200 :: t_Tx_isSmall_319
abbrev t_Tx_isSmall_313 : List UInt8 := 132 :: 2 :: 1 :: t_Tx_isSmall_316
abbrev t_Tx_isSmall_312 : List UInt8 := 79 :: t_Tx_isSmall_313
abbrev t_Tx_isSmall_311 : List UInt8 := 46 :: t_Tx_isSmall_312
abbrev t_Tx_isSmall_310 : List UInt8 := 28 :: t_Tx_isSmall_311
abbrev t_Tx_isSmall_307 : List UInt8 := 180 :: 0 :: 59 :: t_Tx_isSmall_310
abbrev t_Tx_isSmall_306 : List UInt8 := 42 :: t_Tx_isSmall_307
abbrev t_Tx_isSmall_303 : List UInt8 := 167 :: 0 :: 9 :: t_Tx_isSmall_306
abbrev t_Tx_isSmall_300 : List UInt8 := 17 :: 1 :: 245 :: t_Tx_isSmall_303
abbrev t_Tx_isSmall_297 : List UInt8 := 164 :: 0 :: 9 :: t_Tx_isSmall_300
abbrev t_Tx_isSmall_294 : List UInt8 := 17 :: 1 :: 244 :: t_Tx_isSmall_297
abbrev t_Tx_isSmall_293 : List UInt8 := 46 :: t_Tx_isSmall_294
abbrev t_Tx_isSmall_292 : List UInt8 := 28 :: t_Tx_isSmall_293
abbrev t_Tx_isSmall_289 : List UInt8 := 180 :: 0 :: 59 :: t_Tx_isSmall_292
abbrev t_Tx_isSmall_288 : List UInt8 := 42 :: t_Tx_isSmall_289
abbrev t_Tx_isSmall_287 : List UInt8 := 28 :: t_Tx_isSmall_288
abbrev t_Tx_isSmall_284 : List UInt8 := 180 :: 0 :: 59 :: t_Tx_isSmall_287
abbrev t_Tx_isSmall_283 : List UInt8 := 42 :: t_Tx_isSmall_284
abbrev t_Tx_isSmall_282 : List UInt8 := 79 :: t_Tx_isSmall_283
abbrev t_Tx_isSmall_281 : List UInt8 := 96 :: t_Tx_isSmall_282
abbrev t_Tx_isSmall_280 : List UInt8 := 3 :: t_Tx_isSmall_281
abbrev t_Tx_isSmall_277 : List UInt8 := 167 :: 0 :: 4 :: t_Tx_isSmall_280
abbrev t_Tx_isSmall_276 : List UInt8 := 4 :: t_Tx_isSmall_277
abbrev t_Tx_isSmall_273 : List UInt8 := 160 :: 0 :: 7 :: t_Tx_isSmall_276
abbrev t_Tx_isSmall_271 : List UInt8 := 16 :: 23 :: t_Tx_isSmall_273
abbrev t_Tx_isSmall_270 : List UInt8 := 29 :: t_Tx_isSmall_271
abbrev t_Tx_isSmall_269 : List UInt8 := 46 :: t_Tx_isSmall_270
abbrev t_Tx_isSmall_268 : List UInt8 := 92 :: t_Tx_isSmall_269
abbrev t_Tx_isSmall_267 : List UInt8 := 28 :: t_Tx_isSmall_268
abbrev t_Tx_isSmall_264 : List UInt8 := 180 :: 0 :: 62 :: t_Tx_isSmall_267
abbrev t_Tx_isSmall_263 : List UInt8 := 42 :: t_Tx_isSmall_264
abbrev t_Tx_isSmall_262 : List UInt8 := 79 :: t_Tx_isSmall_263
abbrev t_Tx_isSmall_261 : List UInt8 := 46 :: t_Tx_isSmall_262
abbrev t_Tx_isSmall_260 : List UInt8 := 46 :: t_Tx_isSmall_261
abbrev t_Tx_isSmall_259 : List UInt8 := 96 :: t_Tx_isSmall_260
abbrev t_Tx_isSmall_258 : List UInt8 := 46 :: t_Tx_isSmall_259
abbrev t_Tx_isSmall_257 : List UInt8 := 96 :: t_Tx_isSmall_258
abbrev t_Tx_isSmall_255 : List UInt8 := 21 :: 4 :: t_Tx_isSmall_257
abbrev t_Tx_isSmall_252 : List UInt8 := 182 :: 0 :: 195 :: t_Tx_isSmall_255
abbrev t_Tx_isSmall_251 : List UInt8 := 42 :: t_Tx_isSmall_252
abbrev t_Tx_isSmall_248 : List UInt8 := 180 :: 0 :: 29 :: t_Tx_isSmall_251
abbrev t_Tx_isSmall_247 : List UInt8 := 42 :: t_Tx_isSmall_248
abbrev t_Tx_isSmall_244 : List UInt8 := 182 :: 0 :: 195 :: t_Tx_isSmall_247
abbrev t_Tx_isSmall_243 : List UInt8 := 42 :: t_Tx_isSmall_244
abbrev t_Tx_isSmall_240 : List UInt8 := 180 :: 0 :: 35 :: t_Tx_isSmall_243
abbrev t_Tx_isSmall_239 : List UInt8 := 42 :: t_Tx_isSmall_240
abbrev t_Tx_isSmall_236 : List UInt8 := 180 :: 0 :: 62 :: t_Tx_isSmall_239
abbrev t_Tx_isSmall_235 : List UInt8 := 42 :: t_Tx_isSmall_236
abbrev t_Tx_isSmall_234 : List UInt8 := 28 :: t_Tx_isSmall_235
abbrev t_Tx_isSmall_231 : List UInt8 := 180 :: 0 :: 62 :: t_Tx_isSmall_234
abbrev t_Tx_isSmall_230 : List UInt8 := 42 :: t_Tx_isSmall_231
abbrev t_Tx_isSmall_229 : List UInt8 := 79 :: t_Tx_isSmall_230
abbrev t_Tx_isSmall_228 : List UInt8 := 96 :: t_Tx_isSmall_229
abbrev t_Tx_isSmall_227 : List UInt8 := 46 :: t_Tx_isSmall_228
abbrev t_Tx_isSmall_226 : List UInt8 := 46 :: t_Tx_isSmall_227
abbrev t_Tx_isSmall_225 : List UInt8 := 96 :: t_Tx_isSmall_226
abbrev t_Tx_isSmall_224 : List UInt8 := 46 :: t_Tx_isSmall_225
abbrev t_Tx_isSmall_223 : List UInt8 := 96 :: t_Tx_isSmall_224
abbrev t_Tx_isSmall_221 : List UInt8 := 21 :: 4 :: t_Tx_isSmall_223
abbrev t_Tx_isSmall_218 : List UInt8 := 182 :: 0 :: 195 :: t_Tx_isSmall_221
abbrev t_Tx_isSmall_217 : List UInt8 := 42 :: t_Tx_isSmall_218
abbrev t_Tx_isSmall_214 : List UInt8 := 180 :: 0 :: 29 :: t_Tx_isSmall_217
abbrev t_Tx_isSmall_213 : List UInt8 := 42 :: t_Tx_isSmall_214
abbrev t_Tx_isSmall_210 : List UInt8 := 182 :: 0 :: 195 :: t_Tx_isSmall_213
abbrev t_Tx_isSmall_209 : List UInt8 := 42 :: t_Tx_isSmall_210
abbrev t_Tx_isSmall_206 : List UInt8 := 180 :: 0 :: 35 :: t_Tx_isSmall_209
abbrev t_Tx_isSmall_205 : List UInt8 := 42 :: t_Tx_isSmall_206
abbrev t_Tx_isSmall_202 : List UInt8 := 180 :: 0 :: 59 :: t_Tx_isSmall_205
abbrev t_Tx_isSmall_201 : List UInt8 := 42 :: t_Tx_isSmall_202
abbrev t_Tx_isSmall_200 : List UInt8 := 46 :: t_Tx_isSmall_201
abbrev t_Tx_isSmall_199 : List UInt8 := 92 :: t_Tx_isSmall_200
abbrev t_Tx_isSmall_198 : List UInt8 := 28 :: t_Tx_isSmall_199
abbrev t_Tx_isSmall_195 : List UInt8 := 180 :: 0 :: 59 :: t_Tx_isSmall_198
abbrev t_Tx_isSmall_194 : List UInt8 := 42 :: t_Tx_isSmall_195
abbrev t_Tx_isSmall_192 : List UInt8 := 54 :: 4 :: t_Tx_isSmall_194
abbrev t_Tx_isSmall_191 : List UInt8 := 46 :: t_Tx_isSmall_192
abbrev t_Tx_isSmall_190 : List UInt8 := 96 :: t_Tx_isSmall_191
abbrev t_Tx_isSmall_189 : List UInt8 := 136 :: t_Tx_isSmall_190
abbrev t_Tx_isSmall_188 : List UInt8 := 47 :: t_Tx_isSmall_189
abbrev t_Tx_isSmall_187 : List UInt8 := 96 :: t_Tx_isSmall_188
abbrev t_Tx_isSmall_186 : List UInt8 := 28 :: t_Tx_isSmall_187
abbrev t_Tx_isSmall_183 : List UInt8 := 182 :: 0 :: 195 :: t_Tx_isSmall_186
abbrev t_Tx_isSmall_182 : List UInt8 := 42 :: t_Tx_isSmall_183
abbrev t_Tx_isSmall_179 : List UInt8 := 180 :: 0 :: 19 :: t_Tx_isSmall_182
abbrev t_Tx_isSmall_178 : List UInt8 := 42 :: t_Tx_isSmall_179
abbrev t_Tx_isSmall_177 : List UInt8 := 104 :: t_Tx_isSmall_178
abbrev t_Tx_isSmall_176 : List UInt8 := 100 :: t_Tx_isSmall_177
abbrev t_Tx_isSmall_173 : List UInt8 := 180 :: 0 :: 186 :: t_Tx_isSmall_176
abbrev t_Tx_isSmall_172 : List UInt8 := 42 :: t_Tx_isSmall_173
abbrev t_Tx_isSmall_171 : List UInt8 := 4 :: t_Tx_isSmall_172
abbrev t_Tx_isSmall_169 : List UInt8 := 16 :: 40 :: t_Tx_isSmall_171
abbrev t_Tx_isSmall_166 : List UInt8 := 180 :: 0 :: 53 :: t_Tx_isSmall_169
abbrev t_Tx_isSmall_165 : List UInt8 := 42 :: t_Tx_isSmall_166
abbrev t_Tx_isSmall_162 : List UInt8 := 160 :: 0 :: 101 :: t_Tx_isSmall_165
abbrev t_Tx_isSmall_160 : List UInt8 := 16 :: 19 :: t_Tx_isSmall_162
abbrev t_Tx_isSmall_159 : List UInt8 := 29 :: t_Tx_isSmall_160
abbrev t_Tx_isSmall_156 : List UInt8 := 167 :: 255 :: 157 :: t_Tx_isSmall_159
abbrev t_Tx_isSmall_153 : List UInt8 := 132 :: 4 :: 1 :: t_Tx_isSmall_156
abbrev t_Tx_isSmall_152 : List UInt8 := 79 :: t_Tx_isSmall_153
abbrev t_Tx_isSmall_151 : List UInt8 := 46 :: t_Tx_isSmall_152
abbrev t_Tx_isSmall_150 : List UInt8 := 28 :: t_Tx_isSmall_151
abbrev t_Tx_isSmall_147 : List UInt8 := 180 :: 0 :: 62 :: t_Tx_isSmall_150
abbrev t_Tx_isSmall_146 : List UInt8 := 42 :: t_Tx_isSmall_147
abbrev t_Tx_isSmall_143 : List UInt8 := 167 :: 0 :: 9 :: t_Tx_isSmall_146
abbrev t_Tx_isSmall_142 : List UInt8 := 46 :: t_Tx_isSmall_143
abbrev t_Tx_isSmall_140 : List UInt8 := 21 :: 5 :: t_Tx_isSmall_142
abbrev t_Tx_isSmall_137 : List UInt8 := 180 :: 0 :: 62 :: t_Tx_isSmall_140
abbrev t_Tx_isSmall_136 : List UInt8 := 42 :: t_Tx_isSmall_137
abbrev t_Tx_isSmall_133 : List UInt8 := 164 :: 0 :: 13 :: t_Tx_isSmall_136
abbrev t_Tx_isSmall_132 : List UInt8 := 46 :: t_Tx_isSmall_133
abbrev t_Tx_isSmall_131 : List UInt8 := 28 :: t_Tx_isSmall_132
abbrev t_Tx_isSmall_128 : List UInt8 := 180 :: 0 :: 62 :: t_Tx_isSmall_131
abbrev t_Tx_isSmall_127 : List UInt8 := 42 :: t_Tx_isSmall_128
abbrev t_Tx_isSmall_126 : List UInt8 := 46 :: t_Tx_isSmall_127
abbrev t_Tx_isSmall_124 : List UInt8 := 21 :: 5 :: t_Tx_isSmall_126
abbrev t_Tx_isSmall_121 : List UInt8 := 180 :: 0 :: 62 :: t_Tx_isSmall_124
abbrev t_Tx_isSmall_120 : List UInt8 := 42 :: t_Tx_isSmall_121
abbrev t_Tx_isSmall_119 : List UInt8 := 28 :: t_Tx_isSmall_120
abbrev t_Tx_isSmall_116 : List UInt8 := 180 :: 0 :: 62 :: t_Tx_isSmall_119
abbrev t_Tx_isSmall_115 : List UInt8 := 42 :: t_Tx_isSmall_116
abbrev t_Tx_isSmall_114 : List UInt8 := 79 :: t_Tx_isSmall_115
abbrev t_Tx_isSmall_113 : List UInt8 := 96 :: t_Tx_isSmall_114
abbrev t_Tx_isSmall_112 : List UInt8 := 46 :: t_Tx_isSmall_113
abbrev t_Tx_isSmall_110 : List UInt8 := 21 :: 5 :: t_Tx_isSmall_112
abbrev t_Tx_isSmall_107 : List UInt8 := 180 :: 0 :: 59 :: t_Tx_isSmall_110
abbrev t_Tx_isSmall_106 : List UInt8 := 42 :: t_Tx_isSmall_107
abbrev t_Tx_isSmall_105 : List UInt8 := 46 :: t_Tx_isSmall_106
abbrev t_Tx_isSmall_104 : List UInt8 := 92 :: t_Tx_isSmall_105
abbrev t_Tx_isSmall_103 : List UInt8 := 28 :: t_Tx_isSmall_104
abbrev t_Tx_isSmall_100 : List UInt8 := 180 :: 0 :: 59 :: t_Tx_isSmall_103
abbrev t_Tx_isSmall_99 : List UInt8 := 42 :: t_Tx_isSmall_100
abbrev t_Tx_isSmall_97 : List UInt8 := 54 :: 5 :: t_Tx_isSmall_99
abbrev t_Tx_isSmall_96 : List UInt8 := 46 :: t_Tx_isSmall_97
abbrev t_Tx_isSmall_95 : List UInt8 := 96 :: t_Tx_isSmall_96
abbrev t_Tx_isSmall_93 : List UInt8 := 21 :: 4 :: t_Tx_isSmall_95
abbrev t_Tx_isSmall_92 : List UInt8 := 96 :: t_Tx_isSmall_93
abbrev t_Tx_isSmall_91 : List UInt8 := 46 :: t_Tx_isSmall_92
abbrev t_Tx_isSmall_90 : List UInt8 := 96 :: t_Tx_isSmall_91
abbrev t_Tx_isSmall_89 : List UInt8 := 28 :: t_Tx_isSmall_90
abbrev t_Tx_isSmall_86 : List UInt8 := 182 :: 0 :: 195 :: t_Tx_isSmall_89
abbrev t_Tx_isSmall_85 : List UInt8 := 42 :: t_Tx_isSmall_86
abbrev t_Tx_isSmall_82 : List UInt8 := 180 :: 0 :: 29 :: t_Tx_isSmall_85
abbrev t_Tx_isSmall_81 : List UInt8 := 42 :: t_Tx_isSmall_82
abbrev t_Tx_isSmall_78 : List UInt8 := 182 :: 0 :: 195 :: t_Tx_isSmall_81
abbrev t_Tx_isSmall_77 : List UInt8 := 42 :: t_Tx_isSmall_78
abbrev t_Tx_isSmall_74 : List UInt8 := 180 :: 0 :: 35 :: t_Tx_isSmall_77
abbrev t_Tx_isSmall_73 : List UInt8 := 42 :: t_Tx_isSmall_74
abbrev t_Tx_isSmall_70 : List UInt8 := 162 :: 0 :: 89 :: t_Tx_isSmall_73
abbrev t_Tx_isSmall_69 : List UInt8 := 46 :: t_Tx_isSmall_70
abbrev t_Tx_isSmall_68 : List UInt8 := 96 :: t_Tx_isSmall_69
abbrev t_Tx_isSmall_67 : List UInt8 := 28 :: t_Tx_isSmall_68
abbrev t_Tx_isSmall_64 : List UInt8 := 182 :: 0 :: 195 :: t_Tx_isSmall_67
abbrev t_Tx_isSmall_63 : List UInt8 := 42 :: t_Tx_isSmall_64
abbrev t_Tx_isSmall_60 : List UInt8 := 180 :: 0 :: 32 :: t_Tx_isSmall_63
abbrev t_Tx_isSmall_59 : List UInt8 := 42 :: t_Tx_isSmall_60
abbrev t_Tx_isSmall_57 : List UInt8 := 21 :: 4 :: t_Tx_isSmall_59
abbrev t_Tx_isSmall_55 : List UInt8 := 54 :: 4 :: t_Tx_isSmall_57
abbrev t_Tx_isSmall_54 : List UInt8 := 3 :: t_Tx_isSmall_55
abbrev t_Tx_isSmall_53 : List UInt8 := 79 :: t_Tx_isSmall_54
abbrev t_Tx_isSmall_52 : List UInt8 := 3 :: t_Tx_isSmall_53
abbrev t_Tx_isSmall_51 : List UInt8 := 28 :: t_Tx_isSmall_52
abbrev t_Tx_isSmall_48 : List UInt8 := 180 :: 0 :: 62 :: t_Tx_isSmall_51
abbrev t_Tx_isSmall_47 : List UInt8 := 42 :: t_Tx_isSmall_48
abbrev t_Tx_isSmall_46 : List UInt8 := 79 :: t_Tx_isSmall_47
abbrev t_Tx_isSmall_45 : List UInt8 := 3 :: t_Tx_isSmall_46
abbrev t_Tx_isSmall_42 : List UInt8 := 167 :: 0 :: 4 :: t_Tx_isSmall_45
abbrev t_Tx_isSmall_41 : List UInt8 := 4 :: t_Tx_isSmall_42
abbrev t_Tx_isSmall_38 : List UInt8 := 163 :: 0 :: 7 :: t_Tx_isSmall_41
abbrev t_Tx_isSmall_36 : List UInt8 := 16 :: 23 :: t_Tx_isSmall_38
abbrev t_Tx_isSmall_35 : List UInt8 := 29 :: t_Tx_isSmall_36
abbrev t_Tx_isSmall_32 : List UInt8 := 161 :: 0 :: 13 :: t_Tx_isSmall_35
abbrev t_Tx_isSmall_30 : List UInt8 := 16 :: 10 :: t_Tx_isSmall_32
abbrev t_Tx_isSmall_29 : List UInt8 := 29 :: t_Tx_isSmall_30
abbrev t_Tx_isSmall_28 : List UInt8 := 28 :: t_Tx_isSmall_29
abbrev t_Tx_isSmall_25 : List UInt8 := 180 :: 0 :: 59 :: t_Tx_isSmall_28
abbrev t_Tx_isSmall_24 : List UInt8 := 42 :: t_Tx_isSmall_25
abbrev t_Tx_isSmall_23 : List UInt8 := 62 :: t_Tx_isSmall_24
abbrev t_Tx_isSmall_22 : List UInt8 := 46 :: t_Tx_isSmall_23
abbrev t_Tx_isSmall_21 : List UInt8 := 96 :: t_Tx_isSmall_22
abbrev t_Tx_isSmall_20 : List UInt8 := 28 :: t_Tx_isSmall_21
abbrev t_Tx_isSmall_17 : List UInt8 := 182 :: 0 :: 195 :: t_Tx_isSmall_20
abbrev t_Tx_isSmall_16 : List UInt8 := 42 :: t_Tx_isSmall_17
abbrev t_Tx_isSmall_13 : List UInt8 := 180 :: 0 :: 15 :: t_Tx_isSmall_16
abbrev t_Tx_isSmall_12 : List UInt8 := 42 :: t_Tx_isSmall_13
abbrev t_Tx_isSmall_9 : List UInt8 := 162 :: 1 :: 54 :: t_Tx_isSmall_12
abbrev t_Tx_isSmall_6 : List UInt8 := 180 :: 0 :: 189 :: t_Tx_isSmall_9
abbrev t_Tx_isSmall_5 : List UInt8 := 42 :: t_Tx_isSmall_6
abbrev t_Tx_isSmall_4 : List UInt8 := 28 :: t_Tx_isSmall_5
abbrev t_Tx_isSmall_3 : List UInt8 := 61 :: t_Tx_isSmall_4
abbrev t_Tx_isSmall_2 : List UInt8 := 3 :: t_Tx_isSmall_3
abbrev t_Tx_isSmall_1 : List UInt8 := 60 :: t_Tx_isSmall_2
abbrev t_Tx_isSmall_0 : List UInt8 := 3 :: t_Tx_isSmall_1
theorem a_Tx_isSmall_0 : dk_at b_Tx_isSmall 0 t_Tx_isSmall_0 := dk_start (by decide +kernel)
theorem a_Tx_isSmall_1 : dk_at b_Tx_isSmall 1 t_Tx_isSmall_1 := dk_go 1 a_Tx_isSmall_0 rfl
theorem a_Tx_isSmall_2 : dk_at b_Tx_isSmall 2 t_Tx_isSmall_2 := dk_go 1 a_Tx_isSmall_1 rfl
theorem a_Tx_isSmall_3 : dk_at b_Tx_isSmall 3 t_Tx_isSmall_3 := dk_go 1 a_Tx_isSmall_2 rfl
theorem a_Tx_isSmall_4 : dk_at b_Tx_isSmall 4 t_Tx_isSmall_4 := dk_go 1 a_Tx_isSmall_3 rfl
theorem a_Tx_isSmall_5 : dk_at b_Tx_isSmall 5 t_Tx_isSmall_5 := dk_go 1 a_Tx_isSmall_4 rfl
theorem a_Tx_isSmall_6 : dk_at b_Tx_isSmall 6 t_Tx_isSmall_6 := dk_go 1 a_Tx_isSmall_5 rfl
theorem a_Tx_isSmall_9 : dk_at b_Tx_isSmall 9 t_Tx_isSmall_9 := dk_go 3 a_Tx_isSmall_6 rfl
theorem a_Tx_isSmall_12 : dk_at b_Tx_isSmall 12 t_Tx_isSmall_12 := dk_go 3 a_Tx_isSmall_9 rfl
theorem a_Tx_isSmall_13 : dk_at b_Tx_isSmall 13 t_Tx_isSmall_13 := dk_go 1 a_Tx_isSmall_12 rfl
theorem a_Tx_isSmall_16 : dk_at b_Tx_isSmall 16 t_Tx_isSmall_16 := dk_go 3 a_Tx_isSmall_13 rfl
theorem a_Tx_isSmall_17 : dk_at b_Tx_isSmall 17 t_Tx_isSmall_17 := dk_go 1 a_Tx_isSmall_16 rfl
theorem a_Tx_isSmall_20 : dk_at b_Tx_isSmall 20 t_Tx_isSmall_20 := dk_go 3 a_Tx_isSmall_17 rfl
theorem a_Tx_isSmall_21 : dk_at b_Tx_isSmall 21 t_Tx_isSmall_21 := dk_go 1 a_Tx_isSmall_20 rfl
theorem a_Tx_isSmall_22 : dk_at b_Tx_isSmall 22 t_Tx_isSmall_22 := dk_go 1 a_Tx_isSmall_21 rfl
theorem a_Tx_isSmall_23 : dk_at b_Tx_isSmall 23 t_Tx_isSmall_23 := dk_go 1 a_Tx_isSmall_22 rfl
theorem a_Tx_isSmall_24 : dk_at b_Tx_isSmall 24 t_Tx_isSmall_24 := dk_go 1 a_Tx_isSmall_23 rfl
theorem a_Tx_isSmall_25 : dk_at b_Tx_isSmall 25 t_Tx_isSmall_25 := dk_go 1 a_Tx_isSmall_24 rfl
theorem a_Tx_isSmall_28 : dk_at b_Tx_isSmall 28 t_Tx_isSmall_28 := dk_go 3 a_Tx_isSmall_25 rfl
theorem a_Tx_isSmall_29 : dk_at b_Tx_isSmall 29 t_Tx_isSmall_29 := dk_go 1 a_Tx_isSmall_28 rfl
theorem a_Tx_isSmall_30 : dk_at b_Tx_isSmall 30 t_Tx_isSmall_30 := dk_go 1 a_Tx_isSmall_29 rfl
theorem a_Tx_isSmall_32 : dk_at b_Tx_isSmall 32 t_Tx_isSmall_32 := dk_go 2 a_Tx_isSmall_30 rfl
theorem a_Tx_isSmall_35 : dk_at b_Tx_isSmall 35 t_Tx_isSmall_35 := dk_go 3 a_Tx_isSmall_32 rfl
theorem a_Tx_isSmall_36 : dk_at b_Tx_isSmall 36 t_Tx_isSmall_36 := dk_go 1 a_Tx_isSmall_35 rfl
theorem a_Tx_isSmall_38 : dk_at b_Tx_isSmall 38 t_Tx_isSmall_38 := dk_go 2 a_Tx_isSmall_36 rfl
theorem a_Tx_isSmall_41 : dk_at b_Tx_isSmall 41 t_Tx_isSmall_41 := dk_go 3 a_Tx_isSmall_38 rfl
theorem a_Tx_isSmall_42 : dk_at b_Tx_isSmall 42 t_Tx_isSmall_42 := dk_go 1 a_Tx_isSmall_41 rfl
theorem a_Tx_isSmall_45 : dk_at b_Tx_isSmall 45 t_Tx_isSmall_45 := dk_go 3 a_Tx_isSmall_42 rfl
theorem a_Tx_isSmall_46 : dk_at b_Tx_isSmall 46 t_Tx_isSmall_46 := dk_go 1 a_Tx_isSmall_45 rfl
theorem a_Tx_isSmall_47 : dk_at b_Tx_isSmall 47 t_Tx_isSmall_47 := dk_go 1 a_Tx_isSmall_46 rfl
theorem a_Tx_isSmall_48 : dk_at b_Tx_isSmall 48 t_Tx_isSmall_48 := dk_go 1 a_Tx_isSmall_47 rfl
theorem a_Tx_isSmall_51 : dk_at b_Tx_isSmall 51 t_Tx_isSmall_51 := dk_go 3 a_Tx_isSmall_48 rfl
theorem a_Tx_isSmall_52 : dk_at b_Tx_isSmall 52 t_Tx_isSmall_52 := dk_go 1 a_Tx_isSmall_51 rfl
theorem a_Tx_isSmall_53 : dk_at b_Tx_isSmall 53 t_Tx_isSmall_53 := dk_go 1 a_Tx_isSmall_52 rfl
theorem a_Tx_isSmall_54 : dk_at b_Tx_isSmall 54 t_Tx_isSmall_54 := dk_go 1 a_Tx_isSmall_53 rfl
theorem a_Tx_isSmall_55 : dk_at b_Tx_isSmall 55 t_Tx_isSmall_55 := dk_go 1 a_Tx_isSmall_54 rfl
theorem a_Tx_isSmall_57 : dk_at b_Tx_isSmall 57 t_Tx_isSmall_57 := dk_go 2 a_Tx_isSmall_55 rfl
theorem a_Tx_isSmall_59 : dk_at b_Tx_isSmall 59 t_Tx_isSmall_59 := dk_go 2 a_Tx_isSmall_57 rfl
theorem a_Tx_isSmall_60 : dk_at b_Tx_isSmall 60 t_Tx_isSmall_60 := dk_go 1 a_Tx_isSmall_59 rfl
theorem a_Tx_isSmall_63 : dk_at b_Tx_isSmall 63 t_Tx_isSmall_63 := dk_go 3 a_Tx_isSmall_60 rfl
theorem a_Tx_isSmall_64 : dk_at b_Tx_isSmall 64 t_Tx_isSmall_64 := dk_go 1 a_Tx_isSmall_63 rfl
theorem a_Tx_isSmall_67 : dk_at b_Tx_isSmall 67 t_Tx_isSmall_67 := dk_go 3 a_Tx_isSmall_64 rfl
theorem a_Tx_isSmall_68 : dk_at b_Tx_isSmall 68 t_Tx_isSmall_68 := dk_go 1 a_Tx_isSmall_67 rfl
theorem a_Tx_isSmall_69 : dk_at b_Tx_isSmall 69 t_Tx_isSmall_69 := dk_go 1 a_Tx_isSmall_68 rfl
theorem a_Tx_isSmall_70 : dk_at b_Tx_isSmall 70 t_Tx_isSmall_70 := dk_go 1 a_Tx_isSmall_69 rfl
theorem a_Tx_isSmall_73 : dk_at b_Tx_isSmall 73 t_Tx_isSmall_73 := dk_go 3 a_Tx_isSmall_70 rfl
theorem a_Tx_isSmall_74 : dk_at b_Tx_isSmall 74 t_Tx_isSmall_74 := dk_go 1 a_Tx_isSmall_73 rfl
theorem a_Tx_isSmall_77 : dk_at b_Tx_isSmall 77 t_Tx_isSmall_77 := dk_go 3 a_Tx_isSmall_74 rfl
theorem a_Tx_isSmall_78 : dk_at b_Tx_isSmall 78 t_Tx_isSmall_78 := dk_go 1 a_Tx_isSmall_77 rfl
theorem a_Tx_isSmall_81 : dk_at b_Tx_isSmall 81 t_Tx_isSmall_81 := dk_go 3 a_Tx_isSmall_78 rfl
theorem a_Tx_isSmall_82 : dk_at b_Tx_isSmall 82 t_Tx_isSmall_82 := dk_go 1 a_Tx_isSmall_81 rfl
theorem a_Tx_isSmall_85 : dk_at b_Tx_isSmall 85 t_Tx_isSmall_85 := dk_go 3 a_Tx_isSmall_82 rfl
theorem a_Tx_isSmall_86 : dk_at b_Tx_isSmall 86 t_Tx_isSmall_86 := dk_go 1 a_Tx_isSmall_85 rfl
theorem a_Tx_isSmall_89 : dk_at b_Tx_isSmall 89 t_Tx_isSmall_89 := dk_go 3 a_Tx_isSmall_86 rfl
theorem a_Tx_isSmall_90 : dk_at b_Tx_isSmall 90 t_Tx_isSmall_90 := dk_go 1 a_Tx_isSmall_89 rfl
theorem a_Tx_isSmall_91 : dk_at b_Tx_isSmall 91 t_Tx_isSmall_91 := dk_go 1 a_Tx_isSmall_90 rfl
theorem a_Tx_isSmall_92 : dk_at b_Tx_isSmall 92 t_Tx_isSmall_92 := dk_go 1 a_Tx_isSmall_91 rfl
theorem a_Tx_isSmall_93 : dk_at b_Tx_isSmall 93 t_Tx_isSmall_93 := dk_go 1 a_Tx_isSmall_92 rfl
theorem a_Tx_isSmall_95 : dk_at b_Tx_isSmall 95 t_Tx_isSmall_95 := dk_go 2 a_Tx_isSmall_93 rfl
theorem a_Tx_isSmall_96 : dk_at b_Tx_isSmall 96 t_Tx_isSmall_96 := dk_go 1 a_Tx_isSmall_95 rfl
theorem a_Tx_isSmall_97 : dk_at b_Tx_isSmall 97 t_Tx_isSmall_97 := dk_go 1 a_Tx_isSmall_96 rfl
theorem a_Tx_isSmall_99 : dk_at b_Tx_isSmall 99 t_Tx_isSmall_99 := dk_go 2 a_Tx_isSmall_97 rfl
theorem a_Tx_isSmall_100 : dk_at b_Tx_isSmall 100 t_Tx_isSmall_100 := dk_go 1 a_Tx_isSmall_99 rfl
theorem a_Tx_isSmall_103 : dk_at b_Tx_isSmall 103 t_Tx_isSmall_103 := dk_go 3 a_Tx_isSmall_100 rfl
theorem a_Tx_isSmall_104 : dk_at b_Tx_isSmall 104 t_Tx_isSmall_104 := dk_go 1 a_Tx_isSmall_103 rfl
theorem a_Tx_isSmall_105 : dk_at b_Tx_isSmall 105 t_Tx_isSmall_105 := dk_go 1 a_Tx_isSmall_104 rfl
theorem a_Tx_isSmall_106 : dk_at b_Tx_isSmall 106 t_Tx_isSmall_106 := dk_go 1 a_Tx_isSmall_105 rfl
theorem a_Tx_isSmall_107 : dk_at b_Tx_isSmall 107 t_Tx_isSmall_107 := dk_go 1 a_Tx_isSmall_106 rfl
theorem a_Tx_isSmall_110 : dk_at b_Tx_isSmall 110 t_Tx_isSmall_110 := dk_go 3 a_Tx_isSmall_107 rfl
theorem a_Tx_isSmall_112 : dk_at b_Tx_isSmall 112 t_Tx_isSmall_112 := dk_go 2 a_Tx_isSmall_110 rfl
theorem a_Tx_isSmall_113 : dk_at b_Tx_isSmall 113 t_Tx_isSmall_113 := dk_go 1 a_Tx_isSmall_112 rfl
theorem a_Tx_isSmall_114 : dk_at b_Tx_isSmall 114 t_Tx_isSmall_114 := dk_go 1 a_Tx_isSmall_113 rfl
theorem a_Tx_isSmall_115 : dk_at b_Tx_isSmall 115 t_Tx_isSmall_115 := dk_go 1 a_Tx_isSmall_114 rfl
theorem a_Tx_isSmall_116 : dk_at b_Tx_isSmall 116 t_Tx_isSmall_116 := dk_go 1 a_Tx_isSmall_115 rfl
theorem a_Tx_isSmall_119 : dk_at b_Tx_isSmall 119 t_Tx_isSmall_119 := dk_go 3 a_Tx_isSmall_116 rfl
theorem a_Tx_isSmall_120 : dk_at b_Tx_isSmall 120 t_Tx_isSmall_120 := dk_go 1 a_Tx_isSmall_119 rfl
theorem a_Tx_isSmall_121 : dk_at b_Tx_isSmall 121 t_Tx_isSmall_121 := dk_go 1 a_Tx_isSmall_120 rfl
theorem a_Tx_isSmall_124 : dk_at b_Tx_isSmall 124 t_Tx_isSmall_124 := dk_go 3 a_Tx_isSmall_121 rfl
theorem a_Tx_isSmall_126 : dk_at b_Tx_isSmall 126 t_Tx_isSmall_126 := dk_go 2 a_Tx_isSmall_124 rfl
theorem a_Tx_isSmall_127 : dk_at b_Tx_isSmall 127 t_Tx_isSmall_127 := dk_go 1 a_Tx_isSmall_126 rfl
theorem a_Tx_isSmall_128 : dk_at b_Tx_isSmall 128 t_Tx_isSmall_128 := dk_go 1 a_Tx_isSmall_127 rfl
theorem a_Tx_isSmall_131 : dk_at b_Tx_isSmall 131 t_Tx_isSmall_131 := dk_go 3 a_Tx_isSmall_128 rfl
theorem a_Tx_isSmall_132 : dk_at b_Tx_isSmall 132 t_Tx_isSmall_132 := dk_go 1 a_Tx_isSmall_131 rfl
theorem a_Tx_isSmall_133 : dk_at b_Tx_isSmall 133 t_Tx_isSmall_133 := dk_go 1 a_Tx_isSmall_132 rfl
theorem a_Tx_isSmall_136 : dk_at b_Tx_isSmall 136 t_Tx_isSmall_136 := dk_go 3 a_Tx_isSmall_133 rfl
theorem a_Tx_isSmall_137 : dk_at b_Tx_isSmall 137 t_Tx_isSmall_137 := dk_go 1 a_Tx_isSmall_136 rfl
theorem a_Tx_isSmall_140 : dk_at b_Tx_isSmall 140 t_Tx_isSmall_140 := dk_go 3 a_Tx_isSmall_137 rfl
theorem a_Tx_isSmall_142 : dk_at b_Tx_isSmall 142 t_Tx_isSmall_142 := dk_go 2 a_Tx_isSmall_140 rfl
theorem a_Tx_isSmall_143 : dk_at b_Tx_isSmall 143 t_Tx_isSmall_143 := dk_go 1 a_Tx_isSmall_142 rfl
theorem a_Tx_isSmall_146 : dk_at b_Tx_isSmall 146 t_Tx_isSmall_146 := dk_go 3 a_Tx_isSmall_143 rfl
theorem a_Tx_isSmall_147 : dk_at b_Tx_isSmall 147 t_Tx_isSmall_147 := dk_go 1 a_Tx_isSmall_146 rfl
theorem a_Tx_isSmall_150 : dk_at b_Tx_isSmall 150 t_Tx_isSmall_150 := dk_go 3 a_Tx_isSmall_147 rfl
theorem a_Tx_isSmall_151 : dk_at b_Tx_isSmall 151 t_Tx_isSmall_151 := dk_go 1 a_Tx_isSmall_150 rfl
theorem a_Tx_isSmall_152 : dk_at b_Tx_isSmall 152 t_Tx_isSmall_152 := dk_go 1 a_Tx_isSmall_151 rfl
theorem a_Tx_isSmall_153 : dk_at b_Tx_isSmall 153 t_Tx_isSmall_153 := dk_go 1 a_Tx_isSmall_152 rfl
theorem a_Tx_isSmall_156 : dk_at b_Tx_isSmall 156 t_Tx_isSmall_156 := dk_go 3 a_Tx_isSmall_153 rfl
theorem a_Tx_isSmall_159 : dk_at b_Tx_isSmall 159 t_Tx_isSmall_159 := dk_go 3 a_Tx_isSmall_156 rfl
theorem a_Tx_isSmall_160 : dk_at b_Tx_isSmall 160 t_Tx_isSmall_160 := dk_go 1 a_Tx_isSmall_159 rfl
theorem a_Tx_isSmall_162 : dk_at b_Tx_isSmall 162 t_Tx_isSmall_162 := dk_go 2 a_Tx_isSmall_160 rfl
theorem a_Tx_isSmall_165 : dk_at b_Tx_isSmall 165 t_Tx_isSmall_165 := dk_go 3 a_Tx_isSmall_162 rfl
theorem a_Tx_isSmall_166 : dk_at b_Tx_isSmall 166 t_Tx_isSmall_166 := dk_go 1 a_Tx_isSmall_165 rfl
theorem a_Tx_isSmall_169 : dk_at b_Tx_isSmall 169 t_Tx_isSmall_169 := dk_go 3 a_Tx_isSmall_166 rfl
theorem a_Tx_isSmall_171 : dk_at b_Tx_isSmall 171 t_Tx_isSmall_171 := dk_go 2 a_Tx_isSmall_169 rfl
theorem a_Tx_isSmall_172 : dk_at b_Tx_isSmall 172 t_Tx_isSmall_172 := dk_go 1 a_Tx_isSmall_171 rfl
theorem a_Tx_isSmall_173 : dk_at b_Tx_isSmall 173 t_Tx_isSmall_173 := dk_go 1 a_Tx_isSmall_172 rfl
theorem a_Tx_isSmall_176 : dk_at b_Tx_isSmall 176 t_Tx_isSmall_176 := dk_go 3 a_Tx_isSmall_173 rfl
theorem a_Tx_isSmall_177 : dk_at b_Tx_isSmall 177 t_Tx_isSmall_177 := dk_go 1 a_Tx_isSmall_176 rfl
theorem a_Tx_isSmall_178 : dk_at b_Tx_isSmall 178 t_Tx_isSmall_178 := dk_go 1 a_Tx_isSmall_177 rfl
theorem a_Tx_isSmall_179 : dk_at b_Tx_isSmall 179 t_Tx_isSmall_179 := dk_go 1 a_Tx_isSmall_178 rfl
theorem a_Tx_isSmall_182 : dk_at b_Tx_isSmall 182 t_Tx_isSmall_182 := dk_go 3 a_Tx_isSmall_179 rfl
theorem a_Tx_isSmall_183 : dk_at b_Tx_isSmall 183 t_Tx_isSmall_183 := dk_go 1 a_Tx_isSmall_182 rfl
theorem a_Tx_isSmall_186 : dk_at b_Tx_isSmall 186 t_Tx_isSmall_186 := dk_go 3 a_Tx_isSmall_183 rfl
theorem a_Tx_isSmall_187 : dk_at b_Tx_isSmall 187 t_Tx_isSmall_187 := dk_go 1 a_Tx_isSmall_186 rfl
theorem a_Tx_isSmall_188 : dk_at b_Tx_isSmall 188 t_Tx_isSmall_188 := dk_go 1 a_Tx_isSmall_187 rfl
theorem a_Tx_isSmall_189 : dk_at b_Tx_isSmall 189 t_Tx_isSmall_189 := dk_go 1 a_Tx_isSmall_188 rfl
theorem a_Tx_isSmall_190 : dk_at b_Tx_isSmall 190 t_Tx_isSmall_190 := dk_go 1 a_Tx_isSmall_189 rfl
theorem a_Tx_isSmall_191 : dk_at b_Tx_isSmall 191 t_Tx_isSmall_191 := dk_go 1 a_Tx_isSmall_190 rfl
theorem a_Tx_isSmall_192 : dk_at b_Tx_isSmall 192 t_Tx_isSmall_192 := dk_go 1 a_Tx_isSmall_191 rfl
theorem a_Tx_isSmall_194 : dk_at b_Tx_isSmall 194 t_Tx_isSmall_194 := dk_go 2 a_Tx_isSmall_192 rfl
theorem a_Tx_isSmall_195 : dk_at b_Tx_isSmall 195 t_Tx_isSmall_195 := dk_go 1 a_Tx_isSmall_194 rfl
theorem a_Tx_isSmall_198 : dk_at b_Tx_isSmall 198 t_Tx_isSmall_198 := dk_go 3 a_Tx_isSmall_195 rfl
theorem a_Tx_isSmall_199 : dk_at b_Tx_isSmall 199 t_Tx_isSmall_199 := dk_go 1 a_Tx_isSmall_198 rfl
theorem a_Tx_isSmall_200 : dk_at b_Tx_isSmall 200 t_Tx_isSmall_200 := dk_go 1 a_Tx_isSmall_199 rfl
theorem a_Tx_isSmall_201 : dk_at b_Tx_isSmall 201 t_Tx_isSmall_201 := dk_go 1 a_Tx_isSmall_200 rfl
theorem a_Tx_isSmall_202 : dk_at b_Tx_isSmall 202 t_Tx_isSmall_202 := dk_go 1 a_Tx_isSmall_201 rfl
theorem a_Tx_isSmall_205 : dk_at b_Tx_isSmall 205 t_Tx_isSmall_205 := dk_go 3 a_Tx_isSmall_202 rfl
theorem a_Tx_isSmall_206 : dk_at b_Tx_isSmall 206 t_Tx_isSmall_206 := dk_go 1 a_Tx_isSmall_205 rfl
theorem a_Tx_isSmall_209 : dk_at b_Tx_isSmall 209 t_Tx_isSmall_209 := dk_go 3 a_Tx_isSmall_206 rfl
theorem a_Tx_isSmall_210 : dk_at b_Tx_isSmall 210 t_Tx_isSmall_210 := dk_go 1 a_Tx_isSmall_209 rfl
theorem a_Tx_isSmall_213 : dk_at b_Tx_isSmall 213 t_Tx_isSmall_213 := dk_go 3 a_Tx_isSmall_210 rfl
theorem a_Tx_isSmall_214 : dk_at b_Tx_isSmall 214 t_Tx_isSmall_214 := dk_go 1 a_Tx_isSmall_213 rfl
theorem a_Tx_isSmall_217 : dk_at b_Tx_isSmall 217 t_Tx_isSmall_217 := dk_go 3 a_Tx_isSmall_214 rfl
theorem a_Tx_isSmall_218 : dk_at b_Tx_isSmall 218 t_Tx_isSmall_218 := dk_go 1 a_Tx_isSmall_217 rfl
theorem a_Tx_isSmall_221 : dk_at b_Tx_isSmall 221 t_Tx_isSmall_221 := dk_go 3 a_Tx_isSmall_218 rfl
theorem a_Tx_isSmall_223 : dk_at b_Tx_isSmall 223 t_Tx_isSmall_223 := dk_go 2 a_Tx_isSmall_221 rfl
theorem a_Tx_isSmall_224 : dk_at b_Tx_isSmall 224 t_Tx_isSmall_224 := dk_go 1 a_Tx_isSmall_223 rfl
theorem a_Tx_isSmall_225 : dk_at b_Tx_isSmall 225 t_Tx_isSmall_225 := dk_go 1 a_Tx_isSmall_224 rfl
theorem a_Tx_isSmall_226 : dk_at b_Tx_isSmall 226 t_Tx_isSmall_226 := dk_go 1 a_Tx_isSmall_225 rfl
theorem a_Tx_isSmall_227 : dk_at b_Tx_isSmall 227 t_Tx_isSmall_227 := dk_go 1 a_Tx_isSmall_226 rfl
theorem a_Tx_isSmall_228 : dk_at b_Tx_isSmall 228 t_Tx_isSmall_228 := dk_go 1 a_Tx_isSmall_227 rfl
theorem a_Tx_isSmall_229 : dk_at b_Tx_isSmall 229 t_Tx_isSmall_229 := dk_go 1 a_Tx_isSmall_228 rfl
theorem a_Tx_isSmall_230 : dk_at b_Tx_isSmall 230 t_Tx_isSmall_230 := dk_go 1 a_Tx_isSmall_229 rfl
theorem a_Tx_isSmall_231 : dk_at b_Tx_isSmall 231 t_Tx_isSmall_231 := dk_go 1 a_Tx_isSmall_230 rfl
theorem a_Tx_isSmall_234 : dk_at b_Tx_isSmall 234 t_Tx_isSmall_234 := dk_go 3 a_Tx_isSmall_231 rfl
theorem a_Tx_isSmall_235 : dk_at b_Tx_isSmall 235 t_Tx_isSmall_235 := dk_go 1 a_Tx_isSmall_234 rfl
theorem a_Tx_isSmall_236 : dk_at b_Tx_isSmall 236 t_Tx_isSmall_236 := dk_go 1 a_Tx_isSmall_235 rfl
theorem a_Tx_isSmall_239 : dk_at b_Tx_isSmall 239 t_Tx_isSmall_239 := dk_go 3 a_Tx_isSmall_236 rfl
theorem a_Tx_isSmall_240 : dk_at b_Tx_isSmall 240 t_Tx_isSmall_240 := dk_go 1 a_Tx_isSmall_239 rfl
theorem a_Tx_isSmall_243 : dk_at b_Tx_isSmall 243 t_Tx_isSmall_243 := dk_go 3 a_Tx_isSmall_240 rfl
theorem a_Tx_isSmall_244 : dk_at b_Tx_isSmall 244 t_Tx_isSmall_244 := dk_go 1 a_Tx_isSmall_243 rfl
theorem a_Tx_isSmall_247 : dk_at b_Tx_isSmall 247 t_Tx_isSmall_247 := dk_go 3 a_Tx_isSmall_244 rfl
theorem a_Tx_isSmall_248 : dk_at b_Tx_isSmall 248 t_Tx_isSmall_248 := dk_go 1 a_Tx_isSmall_247 rfl
theorem a_Tx_isSmall_251 : dk_at b_Tx_isSmall 251 t_Tx_isSmall_251 := dk_go 3 a_Tx_isSmall_248 rfl
theorem a_Tx_isSmall_252 : dk_at b_Tx_isSmall 252 t_Tx_isSmall_252 := dk_go 1 a_Tx_isSmall_251 rfl
theorem a_Tx_isSmall_255 : dk_at b_Tx_isSmall 255 t_Tx_isSmall_255 := dk_go 3 a_Tx_isSmall_252 rfl
theorem a_Tx_isSmall_257 : dk_at b_Tx_isSmall 257 t_Tx_isSmall_257 := dk_go 2 a_Tx_isSmall_255 rfl
theorem a_Tx_isSmall_258 : dk_at b_Tx_isSmall 258 t_Tx_isSmall_258 := dk_go 1 a_Tx_isSmall_257 rfl
theorem a_Tx_isSmall_259 : dk_at b_Tx_isSmall 259 t_Tx_isSmall_259 := dk_go 1 a_Tx_isSmall_258 rfl
theorem a_Tx_isSmall_260 : dk_at b_Tx_isSmall 260 t_Tx_isSmall_260 := dk_go 1 a_Tx_isSmall_259 rfl
theorem a_Tx_isSmall_261 : dk_at b_Tx_isSmall 261 t_Tx_isSmall_261 := dk_go 1 a_Tx_isSmall_260 rfl
theorem a_Tx_isSmall_262 : dk_at b_Tx_isSmall 262 t_Tx_isSmall_262 := dk_go 1 a_Tx_isSmall_261 rfl
theorem a_Tx_isSmall_263 : dk_at b_Tx_isSmall 263 t_Tx_isSmall_263 := dk_go 1 a_Tx_isSmall_262 rfl
theorem a_Tx_isSmall_264 : dk_at b_Tx_isSmall 264 t_Tx_isSmall_264 := dk_go 1 a_Tx_isSmall_263 rfl
theorem a_Tx_isSmall_267 : dk_at b_Tx_isSmall 267 t_Tx_isSmall_267 := dk_go 3 a_Tx_isSmall_264 rfl
theorem a_Tx_isSmall_268 : dk_at b_Tx_isSmall 268 t_Tx_isSmall_268 := dk_go 1 a_Tx_isSmall_267 rfl
theorem a_Tx_isSmall_269 : dk_at b_Tx_isSmall 269 t_Tx_isSmall_269 := dk_go 1 a_Tx_isSmall_268 rfl
theorem a_Tx_isSmall_270 : dk_at b_Tx_isSmall 270 t_Tx_isSmall_270 := dk_go 1 a_Tx_isSmall_269 rfl
theorem a_Tx_isSmall_271 : dk_at b_Tx_isSmall 271 t_Tx_isSmall_271 := dk_go 1 a_Tx_isSmall_270 rfl
theorem a_Tx_isSmall_273 : dk_at b_Tx_isSmall 273 t_Tx_isSmall_273 := dk_go 2 a_Tx_isSmall_271 rfl
theorem a_Tx_isSmall_276 : dk_at b_Tx_isSmall 276 t_Tx_isSmall_276 := dk_go 3 a_Tx_isSmall_273 rfl
theorem a_Tx_isSmall_277 : dk_at b_Tx_isSmall 277 t_Tx_isSmall_277 := dk_go 1 a_Tx_isSmall_276 rfl
theorem a_Tx_isSmall_280 : dk_at b_Tx_isSmall 280 t_Tx_isSmall_280 := dk_go 3 a_Tx_isSmall_277 rfl
theorem a_Tx_isSmall_281 : dk_at b_Tx_isSmall 281 t_Tx_isSmall_281 := dk_go 1 a_Tx_isSmall_280 rfl
theorem a_Tx_isSmall_282 : dk_at b_Tx_isSmall 282 t_Tx_isSmall_282 := dk_go 1 a_Tx_isSmall_281 rfl
theorem a_Tx_isSmall_283 : dk_at b_Tx_isSmall 283 t_Tx_isSmall_283 := dk_go 1 a_Tx_isSmall_282 rfl
theorem a_Tx_isSmall_284 : dk_at b_Tx_isSmall 284 t_Tx_isSmall_284 := dk_go 1 a_Tx_isSmall_283 rfl
theorem a_Tx_isSmall_287 : dk_at b_Tx_isSmall 287 t_Tx_isSmall_287 := dk_go 3 a_Tx_isSmall_284 rfl
theorem a_Tx_isSmall_288 : dk_at b_Tx_isSmall 288 t_Tx_isSmall_288 := dk_go 1 a_Tx_isSmall_287 rfl
theorem a_Tx_isSmall_289 : dk_at b_Tx_isSmall 289 t_Tx_isSmall_289 := dk_go 1 a_Tx_isSmall_288 rfl
theorem a_Tx_isSmall_292 : dk_at b_Tx_isSmall 292 t_Tx_isSmall_292 := dk_go 3 a_Tx_isSmall_289 rfl
theorem a_Tx_isSmall_293 : dk_at b_Tx_isSmall 293 t_Tx_isSmall_293 := dk_go 1 a_Tx_isSmall_292 rfl
theorem a_Tx_isSmall_294 : dk_at b_Tx_isSmall 294 t_Tx_isSmall_294 := dk_go 1 a_Tx_isSmall_293 rfl
theorem a_Tx_isSmall_297 : dk_at b_Tx_isSmall 297 t_Tx_isSmall_297 := dk_go 3 a_Tx_isSmall_294 rfl
theorem a_Tx_isSmall_300 : dk_at b_Tx_isSmall 300 t_Tx_isSmall_300 := dk_go 3 a_Tx_isSmall_297 rfl
theorem a_Tx_isSmall_303 : dk_at b_Tx_isSmall 303 t_Tx_isSmall_303 := dk_go 3 a_Tx_isSmall_300 rfl
theorem a_Tx_isSmall_306 : dk_at b_Tx_isSmall 306 t_Tx_isSmall_306 := dk_go 3 a_Tx_isSmall_303 rfl
theorem a_Tx_isSmall_307 : dk_at b_Tx_isSmall 307 t_Tx_isSmall_307 := dk_go 1 a_Tx_isSmall_306 rfl
theorem a_Tx_isSmall_310 : dk_at b_Tx_isSmall 310 t_Tx_isSmall_310 := dk_go 3 a_Tx_isSmall_307 rfl
theorem a_Tx_isSmall_311 : dk_at b_Tx_isSmall 311 t_Tx_isSmall_311 := dk_go 1 a_Tx_isSmall_310 rfl
theorem a_Tx_isSmall_312 : dk_at b_Tx_isSmall 312 t_Tx_isSmall_312 := dk_go 1 a_Tx_isSmall_311 rfl
theorem a_Tx_isSmall_313 : dk_at b_Tx_isSmall 313 t_Tx_isSmall_313 := dk_go 1 a_Tx_isSmall_312 rfl
theorem a_Tx_isSmall_316 : dk_at b_Tx_isSmall 316 t_Tx_isSmall_316 := dk_go 3 a_Tx_isSmall_313 rfl
theorem a_Tx_isSmall_319 : dk_at b_Tx_isSmall 319 t_Tx_isSmall_319 := dk_go 3 a_Tx_isSmall_316 rfl
theorem a_Tx_isSmall_320 : dk_at b_Tx_isSmall 320 t_Tx_isSmall_320 := dk_go 1 a_Tx_isSmall_319 rfl
theorem a_Tx_isSmall_321 : dk_at b_Tx_isSmall 321 t_Tx_isSmall_321 := dk_go 1 a_Tx_isSmall_320 rfl
theorem a_Tx_isSmall_322 : dk_at b_Tx_isSmall 322 t_Tx_isSmall_322 := dk_go 1 a_Tx_isSmall_321 rfl
theorem a_Tx_isSmall_323 : dk_at b_Tx_isSmall 323 t_Tx_isSmall_323 := dk_go 1 a_Tx_isSmall_322 rfl
theorem a_Tx_isSmall_326 : dk_at b_Tx_isSmall 326 t_Tx_isSmall_326 := dk_go 3 a_Tx_isSmall_323 rfl
theorem a_Tx_isSmall_329 : dk_at b_Tx_isSmall 329 t_Tx_isSmall_329 := dk_go 3 a_Tx_isSmall_326 rfl
theorem a_Tx_isSmall_330 : dk_at b_Tx_isSmall 330 t_Tx_isSmall_330 := dk_go 1 a_Tx_isSmall_329 rfl
theorem a_Tx_isSmall_333 : dk_at b_Tx_isSmall 333 t_Tx_isSmall_333 := dk_go 3 a_Tx_isSmall_330 rfl
theorem a_Tx_isSmall_336 : dk_at b_Tx_isSmall 336 t_Tx_isSmall_336 := dk_go 3 a_Tx_isSmall_333 rfl
theorem a_Tx_isSmall_337 : dk_at b_Tx_isSmall 337 t_Tx_isSmall_337 := dk_go 1 a_Tx_isSmall_336 rfl
theorem a_Tx_isSmall_340 : dk_at b_Tx_isSmall 340 t_Tx_isSmall_340 := dk_go 3 a_Tx_isSmall_337 rfl
theorem a_Tx_isSmall_341 : dk_at b_Tx_isSmall 341 t_Tx_isSmall_341 := dk_go 1 a_Tx_isSmall_340 rfl
theorem a_Tx_isSmall_344 : dk_at b_Tx_isSmall 344 t_Tx_isSmall_344 := dk_go 3 a_Tx_isSmall_341 rfl
theorem a_Tx_isSmall_345 : dk_at b_Tx_isSmall 345 t_Tx_isSmall_345 := dk_go 1 a_Tx_isSmall_344 rfl
theorem a_Tx_isSmall_346 : dk_at b_Tx_isSmall 346 t_Tx_isSmall_346 := dk_go 1 a_Tx_isSmall_345 rfl
theorem a_Tx_isSmall_347 : dk_at b_Tx_isSmall 347 t_Tx_isSmall_347 := dk_go 1 a_Tx_isSmall_346 rfl
theorem a_Tx_isSmall_348 : dk_at b_Tx_isSmall 348 t_Tx_isSmall_348 := dk_go 1 a_Tx_isSmall_347 rfl
theorem a_Tx_isSmall_349 : dk_at b_Tx_isSmall 349 t_Tx_isSmall_349 := dk_go 1 a_Tx_isSmall_348 rfl
theorem a_Tx_isSmall_350 : dk_at b_Tx_isSmall 350 t_Tx_isSmall_350 := dk_go 1 a_Tx_isSmall_349 rfl
theorem a_Tx_isSmall_353 : dk_at b_Tx_isSmall 353 t_Tx_isSmall_353 := dk_go 3 a_Tx_isSmall_350 rfl
theorem a_Tx_isSmall_354 : dk_at b_Tx_isSmall 354 t_Tx_isSmall_354 := dk_go 1 a_Tx_isSmall_353 rfl
theorem a_Tx_isSmall_357 : dk_at b_Tx_isSmall 357 t_Tx_isSmall_357 := dk_go 3 a_Tx_isSmall_354 rfl
theorem a_Tx_isSmall_358 : dk_at b_Tx_isSmall 358 t_Tx_isSmall_358 := dk_go 1 a_Tx_isSmall_357 rfl
theorem a_Tx_isSmall_359 : dk_at b_Tx_isSmall 359 t_Tx_isSmall_359 := dk_go 1 a_Tx_isSmall_358 rfl
theorem a_Tx_isSmall_360 : dk_at b_Tx_isSmall 360 t_Tx_isSmall_360 := dk_go 1 a_Tx_isSmall_359 rfl
theorem a_Tx_isSmall_362 : dk_at b_Tx_isSmall 362 t_Tx_isSmall_362 := dk_go 2 a_Tx_isSmall_360 rfl
theorem a_Tx_isSmall_365 : dk_at b_Tx_isSmall 365 t_Tx_isSmall_365 := dk_go 3 a_Tx_isSmall_362 rfl
theorem a_Tx_isSmall_366 : dk_at b_Tx_isSmall 366 t_Tx_isSmall_366 := dk_go 1 a_Tx_isSmall_365 rfl
theorem a_Tx_isSmall_369 : dk_at b_Tx_isSmall 369 t_Tx_isSmall_369 := dk_go 3 a_Tx_isSmall_366 rfl
theorem a_Tx_isSmall_370 : dk_at b_Tx_isSmall 370 t_Tx_isSmall_370 := dk_go 1 a_Tx_isSmall_369 rfl
theorem a_Tx_isSmall_373 : dk_at b_Tx_isSmall 373 t_Tx_isSmall_373 := dk_go 3 a_Tx_isSmall_370 rfl
theorem a_Tx_isSmall_374 : dk_at b_Tx_isSmall 374 t_Tx_isSmall_374 := dk_go 1 a_Tx_isSmall_373 rfl
theorem a_Tx_isSmall_375 : dk_at b_Tx_isSmall 375 t_Tx_isSmall_375 := dk_go 1 a_Tx_isSmall_374 rfl
theorem a_Tx_isSmall_377 : dk_at b_Tx_isSmall 377 t_Tx_isSmall_377 := dk_go 2 a_Tx_isSmall_375 rfl
theorem a_Tx_isSmall_380 : dk_at b_Tx_isSmall 380 t_Tx_isSmall_380 := dk_go 3 a_Tx_isSmall_377 rfl
theorem a_Tx_isSmall_383 : dk_at b_Tx_isSmall 383 t_Tx_isSmall_383 := dk_go 3 a_Tx_isSmall_380 rfl
theorem a_Tx_isSmall_386 : dk_at b_Tx_isSmall 386 t_Tx_isSmall_386 := dk_go 3 a_Tx_isSmall_383 rfl
theorem a_Tx_isSmall_387 : dk_at b_Tx_isSmall 387 t_Tx_isSmall_387 := dk_go 1 a_Tx_isSmall_386 rfl
theorem a_Tx_isSmall_390 : dk_at b_Tx_isSmall 390 t_Tx_isSmall_390 := dk_go 3 a_Tx_isSmall_387 rfl
theorem a_Tx_isSmall_391 : dk_at b_Tx_isSmall 391 t_Tx_isSmall_391 := dk_go 1 a_Tx_isSmall_390 rfl
theorem a_Tx_isSmall_392 : dk_at b_Tx_isSmall 392 t_Tx_isSmall_392 := dk_go 1 a_Tx_isSmall_391 rfl
theorem a_Tx_isSmall_393 : dk_at b_Tx_isSmall 393 t_Tx_isSmall_393 := dk_go 1 a_Tx_isSmall_392 rfl
theorem a_Tx_isSmall_394 : dk_at b_Tx_isSmall 394 t_Tx_isSmall_394 := dk_go 1 a_Tx_isSmall_393 rfl
theorem a_Tx_isSmall_397 : dk_at b_Tx_isSmall 397 t_Tx_isSmall_397 := dk_go 3 a_Tx_isSmall_394 rfl
theorem a_Tx_isSmall_400 : dk_at b_Tx_isSmall 400 t_Tx_isSmall_400 := dk_go 3 a_Tx_isSmall_397 rfl
theorem a_Tx_isSmall_401 : dk_at b_Tx_isSmall 401 t_Tx_isSmall_401 := dk_go 1 a_Tx_isSmall_400 rfl
theorem a_Tx_isSmall_402 : dk_at b_Tx_isSmall 402 t_Tx_isSmall_402 := dk_go 1 a_Tx_isSmall_401 rfl
theorem a_Tx_isSmall_405 : dk_at b_Tx_isSmall 405 t_Tx_isSmall_405 := dk_go 3 a_Tx_isSmall_402 rfl
theorem a_Tx_isSmall_408 : dk_at b_Tx_isSmall 408 t_Tx_isSmall_408 := dk_go 3 a_Tx_isSmall_405 rfl
theorem a_Tx_isSmall_409 : dk_at b_Tx_isSmall 409 t_Tx_isSmall_409 := dk_go 1 a_Tx_isSmall_408 rfl
theorem a_Tx_isSmall_412 : dk_at b_Tx_isSmall 412 t_Tx_isSmall_412 := dk_go 3 a_Tx_isSmall_409 rfl
theorem a_Tx_isSmall_415 : dk_at b_Tx_isSmall 415 t_Tx_isSmall_415 := dk_go 3 a_Tx_isSmall_412 rfl
theorem a_Tx_isSmall_416 : dk_at b_Tx_isSmall 416 t_Tx_isSmall_416 := dk_go 1 a_Tx_isSmall_415 rfl
theorem a_Tx_isSmall_419 : dk_at b_Tx_isSmall 419 t_Tx_isSmall_419 := dk_go 3 a_Tx_isSmall_416 rfl
theorem a_Tx_isSmall_422 : dk_at b_Tx_isSmall 422 t_Tx_isSmall_422 := dk_go 3 a_Tx_isSmall_419 rfl
theorem a_Tx_isSmall_423 : dk_at b_Tx_isSmall 423 t_Tx_isSmall_423 := dk_go 1 a_Tx_isSmall_422 rfl
theorem a_Tx_isSmall_426 : dk_at b_Tx_isSmall 426 t_Tx_isSmall_426 := dk_go 3 a_Tx_isSmall_423 rfl
theorem a_Tx_isSmall_429 : dk_at b_Tx_isSmall 429 t_Tx_isSmall_429 := dk_go 3 a_Tx_isSmall_426 rfl
theorem a_Tx_isSmall_430 : dk_at b_Tx_isSmall 430 t_Tx_isSmall_430 := dk_go 1 a_Tx_isSmall_429 rfl
theorem a_Tx_isSmall_433 : dk_at b_Tx_isSmall 433 t_Tx_isSmall_433 := dk_go 3 a_Tx_isSmall_430 rfl
theorem a_Tx_isSmall_434 : dk_at b_Tx_isSmall 434 t_Tx_isSmall_434 := dk_go 1 a_Tx_isSmall_433 rfl
theorem d_Tx_isSmall_0 : decode b_Tx_isSmall 0 = .ok (.iconst 0, 1) := dk_0 a_Tx_isSmall_0 (dko_3 _)
theorem d_Tx_isSmall_1 : decode b_Tx_isSmall 1 = .ok (.istore_n 1, 1) := dk_0 a_Tx_isSmall_1 (dko_60 _)
theorem d_Tx_isSmall_2 : decode b_Tx_isSmall 2 = .ok (.iconst 0, 1) := dk_0 a_Tx_isSmall_2 (dko_3 _)
theorem d_Tx_isSmall_3 : decode b_Tx_isSmall 3 = .ok (.istore_n 2, 1) := dk_0 a_Tx_isSmall_3 (dko_61 _)
theorem d_Tx_isSmall_4 : decode b_Tx_isSmall 4 = .ok (.iload_n 2, 1) := dk_0 a_Tx_isSmall_4 (dko_28 _)
theorem d_Tx_isSmall_5 : decode b_Tx_isSmall 5 = .ok (.aload_n 0, 1) := dk_0 a_Tx_isSmall_5 (dko_42 _)
theorem d_Tx_isSmall_6 : decode b_Tx_isSmall 6 = .ok (.getfield 189, 3) := dk_U2 a_Tx_isSmall_6 (dko_180 _) rfl
theorem d_Tx_isSmall_9 : decode b_Tx_isSmall 9 = .ok (.if_icmp .ge 310, 3) := dk_S2 a_Tx_isSmall_9 (dko_162 _) (by decide +kernel)
theorem d_Tx_isSmall_319 : decode b_Tx_isSmall 319 = .ok (.iconst 0, 1) := dk_0 a_Tx_isSmall_319 (dko_3 _)
theorem d_Tx_isSmall_320 : decode b_Tx_isSmall 320 = .ok (.istore_n 2, 1) := dk_0 a_Tx_isSmall_320 (dko_61 _)
theorem d_Tx_isSmall_321 : decode b_Tx_isSmall 321 = .ok (.iload_n 2, 1) := dk_0 a_Tx_isSmall_321 (dko_28 _)
theorem d_Tx_isSmall_322 : decode b_Tx_isSmall 322 = .ok (.aload_n 0, 1) := dk_0 a_Tx_isSmall_322 (dko_42 _)
theorem d_Tx_isSmall_323 : decode b_Tx_isSmall 323 = .ok (.getfield 281, 3) := dk_U2 a_Tx_isSmall_323 (dko_180 _) rfl
theorem d_Tx_isSmall_326 : decode b_Tx_isSmall 326 = .ok (.if_icmp .ge 74, 3) := dk_S2 a_Tx_isSmall_326 (dko_162 _) (by decide +kernel)
theorem d_Tx_isSmall_400 : decode b_Tx_isSmall 400 = .ok (.aload_n 0, 1) := dk_0 a_Tx_isSmall_400 (dko_42 _)
theorem d_Tx_isSmall_401 : decode b_Tx_isSmall 401 = .ok (.iload_n 1, 1) := dk_0 a_Tx_isSmall_401 (dko_27 _)
theorem d_Tx_isSmall_402 : decode b_Tx_isSmall 402 = .ok (.sipush 500, 3) := dk_S2 a_Tx_isSmall_402 (dko_17 _) (by decide +kernel)
theorem d_Tx_isSmall_405 : decode b_Tx_isSmall 405 = .ok (.if_icmp .le 10, 3) := dk_S2 a_Tx_isSmall_405 (dko_164 _) (by decide +kernel)
theorem d_Tx_isSmall_415 : decode b_Tx_isSmall 415 = .ok (.aload_n 0, 1) := dk_0 a_Tx_isSmall_415 (dko_42 _)
theorem d_Tx_isSmall_416 : decode b_Tx_isSmall 416 = .ok (.getfield 159, 3) := dk_U2 a_Tx_isSmall_416 (dko_180 _) rfl
theorem d_Tx_isSmall_419 : decode b_Tx_isSmall 419 = .ok (.putfield 159, 3) := dk_U2 a_Tx_isSmall_419 (dko_181 _) rfl
theorem d_Tx_isSmall_422 : decode b_Tx_isSmall 422 = .ok (.iload_n 1, 1) := dk_0 a_Tx_isSmall_422 (dko_27 _)
theorem d_Tx_isSmall_423 : decode b_Tx_isSmall 423 = .ok (.sipush 500, 3) := dk_S2 a_Tx_isSmall_423 (dko_17 _) (by decide +kernel)
theorem d_Tx_isSmall_426 : decode b_Tx_isSmall 426 = .ok (.if_icmp .gt 7, 3) := dk_S2 a_Tx_isSmall_426 (dko_163 _) (by decide +kernel)
theorem d_Tx_isSmall_429 : decode b_Tx_isSmall 429 = .ok (.iconst 1, 1) := dk_0 a_Tx_isSmall_429 (dko_4 _)
theorem d_Tx_isSmall_430 : decode b_Tx_isSmall 430 = .ok (.goto 4, 3) := dk_S2 a_Tx_isSmall_430 (dko_167 _) (by decide +kernel)
theorem d_Tx_isSmall_434 : decode b_Tx_isSmall 434 = .ok (.ireturn, 1) := dk_0 a_Tx_isSmall_434 (dko_172 _)
set_option maxHeartbeats 4000000 in
set_option maxRecDepth 100000 in
theorem c_Tx_isSmall (l : Launch) (dC : Nat → ClassId) (dI : Nat → Nat → Nat) (cI cB cZ cJ : ClassId) (oT : Nat) (ft : List Value) (ht_size : fx ft 1 (.int 0)) (ht_wrong : fx ft 10 (.int (-1))) (ht_half : fx ft 12 (.int 0)) (ht_nodes : fx ft 13 (.int 0)) (ht_topsMade : fx ft 23 (.int 0)) (ht_names : fx ft 24 (.int 0)) (ht_nodeCount : fx ft 30 (.int 0)) (ht_topCount : fx ft 31 (.int 0)) (ht_nameCount : fx ft 32 (.int 0)) (ht_statements : fx ft 33 (.int 0)) (ht_made : fx ft 38 (.int 0)) (sz : Nat) : Met l y_Tx_isSmall w_Tx_isSmall ({ frames := 0, cells := 0, slots := 0, locals := 0 }) (va_Pc [.ref oT] (PW dC dI cI cB cZ cJ [(oT, .inr (13, ft))] sz)) (va_Qi (fun (r : Int32) (_ : Unit) => r = 1) (fun (_ : Unit) (t : State) => ∃ (n_ft : List Value), fx n_ft 1 (.int 0) ∧ fx n_ft 10 (.int (-1)) ∧ fx n_ft 12 (.int 0) ∧ fx n_ft 13 (.int 0) ∧ fx n_ft 23 (.int 0) ∧ fx n_ft 24 (.int 0) ∧ fx n_ft 30 (.int 0) ∧ fx n_ft 31 (.int 0) ∧ fx n_ft 32 (.int 0) ∧ fx n_ft 33 (.int 0) ∧ fx n_ft 38 (.int 0) ∧ va_P (dC, dI) classes [(oT, .inr (13, n_ft))] t.heap ∧ va_D (va_A [(oT, .inr (13, ft))] sz) [(oT, .inr (13, n_ft))]) (va_A [(oT, .inr (13, ft))] sz)) 0 0 (va_A [(oT, .inr (13, ft))] sz) := by
  refine Met.ofW (cc := b_Tx_isSmall) (maxL := 6) (ret := (some .boolean)) (by decide) rfl ?_
  intro p e s m args below meth c s₁ B hml hv
  obtain ⟨rfl, hsz, hP, hK, hD⟩ := hv
  have hx := B.exec
  have hb := B.bytes
  have hr := B.returns
  have hts := atoms_spec (ws := w_Tx_isSmall) B.pre
  have hown : s.vm.findClass R_Tx = some m.cls := findClass_of_methodNamed B.named
  have hlocks := B.notSynchronized
  subst hsz
  have hD := hD.self (sz := s.heap.size)
  generalize hAe : va_A [(oT, .inr (13, ft))] s.heap.size = A at hD ⊢
  have hA : ∀ q : Nat, s.heap.size ≤ q → A q := fun q h => by rw [← hAe]; exact Or.inr h
  have hS : va_S A s.heap s.heap [] := va_S.rf
  have hP : va_P (dC, dI) classes [(oT, .inr (13, ft))] s.heap := hP
  have hl := lv_entry ([.ref oT]) (n := 6) (Nat.le_of_ble_eq_true rfl)
  rw [lg_entry_eq]
  generalize (lg_sl ([.ref oT]) ++ List.replicate (6 - (lg_sl ([.ref oT])).length) Slot.unset).toArray = ls at hl ⊢
  have hl : lv_has ls 6 [(0, .ref oT)] := hl
  refine lv_iconst (v := 0) hx hb d_Tx_isSmall_0 (by decide) ?_
  refine lv_istore_n hx hb d_Tx_isSmall_1 rfl hl (by decide) rfl (fun ls hl => ?_)
  have hl : lv_has ls 6 [(1, .int 0), (0, .ref oT)] := hl
  refine lv_iconst (v := 0) hx hb d_Tx_isSmall_2 (by decide) ?_
  refine lv_istore_n hx hb d_Tx_isSmall_3 rfl hl (by decide) rfl (fun ls hl => ?_)
  have hl : lv_has ls 6 [(2, .int 0), (1, .int 0), (0, .ref oT)] := hl
  refine lv_iload_n hx hb d_Tx_isSmall_4 rfl (lv_at hl 0 rfl) ?_
  refine lv_aload_n hx hb d_Tx_isSmall_5 rfl (lv_at hl 2 rfl) ?_
  refine va_get (D := (dC, dI)) (ci := 13) (v := .int 0) (C := R_Tx) (T := F_Tx) (N := 39) hx hb hts (fun w h => List.mem_cons_of_mem _ (in_Tx w h)) hown hK.1 hP 0 rfl rfl 13 (by decide) (hts _ (List.mem_cons_of_mem _ mw_1593)) (fun _ h9 => h9) ht_nodes d_Tx_isSmall_6 ?_
  refine lv_icmp_ge (tgt := 319) hx hb d_Tx_isSmall_9 (by decide) (fun _ => ?_) (fun h => absurd (by decide) h)
  refine lv_iconst (v := 0) hx hb d_Tx_isSmall_319 (by decide) ?_
  refine lv_istore_n hx hb d_Tx_isSmall_320 rfl hl (by decide) rfl (fun ls hl => ?_)
  have hl : lv_has ls 6 [(2, .int 0), (1, .int 0), (0, .ref oT)] := hl
  refine lv_iload_n hx hb d_Tx_isSmall_321 rfl (lv_at hl 0 rfl) ?_
  refine lv_aload_n hx hb d_Tx_isSmall_322 rfl (lv_at hl 2 rfl) ?_
  refine va_get (D := (dC, dI)) (ci := 13) (v := .int 0) (C := R_Tx) (T := F_Tx) (N := 39) hx hb hts (fun w h => List.mem_cons_of_mem _ (in_Tx w h)) hown hK.1 hP 0 rfl rfl 23 (by decide) (hts _ (List.mem_cons_of_mem _ mw_1607)) (fun _ h9 => h9) ht_topsMade d_Tx_isSmall_323 ?_
  refine lv_icmp_ge (tgt := 400) hx hb d_Tx_isSmall_326 (by decide) (fun _ => ?_) (fun h => absurd (by decide) h)
  refine lv_aload_n hx hb d_Tx_isSmall_400 rfl (lv_at hl 2 rfl) ?_
  refine lv_iload_n hx hb d_Tx_isSmall_401 rfl (lv_at hl 1 rfl) ?_
  refine lv_sipush (v := 500) hx hb d_Tx_isSmall_402 (by decide) ?_
  refine lv_icmp_le (tgt := 415) hx hb d_Tx_isSmall_405 (by decide) (fun _ => ?_) (fun h => absurd (by decide) h)
  refine lv_aload_n hx hb d_Tx_isSmall_415 rfl (lv_at hl 2 rfl) ?_
  refine va_get (D := (dC, dI)) (ci := 13) (v := .int (-1)) (C := R_Tx) (T := F_Tx) (N := 39) hx hb hts (fun w h => List.mem_cons_of_mem _ (in_Tx w h)) hown hK.1 hP 0 rfl rfl 10 (by decide) (hts _ (List.mem_cons_of_mem _ mw_1589)) (fun _ h9 => h9) ht_wrong d_Tx_isSmall_416 ?_
  refine va_put (D := (dC, dI)) (ci := 13) (v := .int (-1)) (ty := .int) (C := R_Tx) (T := F_Tx) (N := 39) hx hb hts (fun w h => List.mem_cons_of_mem _ (in_Tx w h)) t_Tx t_Tx_ok n_Tx hown hK.1 hP hD hS 0 rfl rfl 10 (by decide) (hts _ (List.mem_cons_of_mem _ mw_1589)) (fun _ h9 => h9) rfl (by decide +kernel) rfl rfl (st_lt ht_wrong) d_Tx_isSmall_419 (fun H locs hP hD hS => ?_)
  have g419_12 : fx (ft.set 10 (.int (-1))) 12 (.int 0) := (st_ne ht_half (by decide))
  have g419_38 : fx (ft.set 10 (.int (-1))) 38 (.int 0) := (st_ne ht_made (by decide))
  have g419_32 : fx (ft.set 10 (.int (-1))) 32 (.int 0) := (st_ne ht_nameCount (by decide))
  have g419_24 : fx (ft.set 10 (.int (-1))) 24 (.int 0) := (st_ne ht_names (by decide))
  have g419_30 : fx (ft.set 10 (.int (-1))) 30 (.int 0) := (st_ne ht_nodeCount (by decide))
  have g419_13 : fx (ft.set 10 (.int (-1))) 13 (.int 0) := (st_ne ht_nodes (by decide))
  have g419_1 : fx (ft.set 10 (.int (-1))) 1 (.int 0) := (st_ne ht_size (by decide))
  have g419_33 : fx (ft.set 10 (.int (-1))) 33 (.int 0) := (st_ne ht_statements (by decide))
  have g419_31 : fx (ft.set 10 (.int (-1))) 31 (.int 0) := (st_ne ht_topCount (by decide))
  have g419_23 : fx (ft.set 10 (.int (-1))) 23 (.int 0) := (st_ne ht_topsMade (by decide))
  have g419_10 : fx (ft.set 10 (.int (-1))) 10 (.int (-1)) := (st_eq ht_wrong)
  have hP : va_P (dC, dI) classes [(oT, .inr (13, (ft.set 10 (.int (-1)))))] H := hP
  have hD : va_D A [(oT, .inr (13, (ft.set 10 (.int (-1)))))] := hD
  refine lv_iload_n hx hb d_Tx_isSmall_422 rfl (lv_at hl 1 rfl) ?_
  refine lv_sipush (v := 500) hx hb d_Tx_isSmall_423 (by decide) ?_
  refine lv_icmp_gt (tgt := 433) hx hb d_Tx_isSmall_426 (by decide) (fun h => absurd h (by decide)) (fun _ => ?_)
  refine lv_iconst (v := 1) hx hb d_Tx_isSmall_429 (by decide) ?_
  refine lv_goto (tgt := 434) hx hb d_Tx_isSmall_430 (by decide) ?_
  exact W.zret (v := 1) (ty := .boolean) hx hb hr (by decide) (fun t ht hW => ⟨⟨_, (), rfl, (rfl), ⟨(ft.set 10 (.int (-1))), g419_1, g419_10, g419_12, g419_13, g419_23, g419_24, g419_30, g419_31, g419_32, g419_33, g419_38, by rw [ht]; exact hP, hD⟩⟩, hS.F ht⟩) hS.2.2 d_Tx_isSmall_434
abbrev t_Tx_read_132 : List UInt8 := 172 :: []
abbrev t_Tx_read_129 : List UInt8 := 180 :: 1 :: 46 :: t_Tx_read_132
abbrev t_Tx_read_128 : List UInt8 := 42 :: t_Tx_read_129
abbrev t_Tx_read_125 : List UInt8 := 181 :: 1 :: 46 :: t_Tx_read_128
abbrev t_Tx_read_122 : List UInt8 := 180 :: 1 :: 19 :: t_Tx_read_125
abbrev t_Tx_read_121 : List UInt8 := 42 :: t_Tx_read_122
abbrev t_Tx_read_120 : List UInt8 := 42 :: t_Tx_read_121
abbrev t_Tx_read_117 : List UInt8 := 181 :: 1 :: 43 :: t_Tx_read_120
abbrev t_Tx_read_114 : List UInt8 := 180 :: 0 :: 252 :: t_Tx_read_117
abbrev t_Tx_read_113 : List UInt8 := 42 :: t_Tx_read_114
abbrev t_Tx_read_112 : List UInt8 := 42 :: t_Tx_read_113
abbrev t_Tx_read_109 : List UInt8 := 181 :: 1 :: 40 :: t_Tx_read_112
abbrev t_Tx_read_106 : List UInt8 := 180 :: 1 :: 25 :: t_Tx_read_109
abbrev t_Tx_read_105 : List UInt8 := 42 :: t_Tx_read_106
abbrev t_Tx_read_104 : List UInt8 := 42 :: t_Tx_read_105
abbrev t_Tx_read_101 : List UInt8 := 181 :: 1 :: 37 :: t_Tx_read_104
abbrev t_Tx_read_98 : List UInt8 := 180 :: 0 :: 189 :: t_Tx_read_101
abbrev t_Tx_read_97 : List UInt8 := 42 :: t_Tx_read_98
abbrev t_Tx_read_96 : List UInt8 := 42 :: t_Tx_read_97
abbrev t_Tx_read_93 : List UInt8 := 181 :: 0 :: 186 :: t_Tx_read_96
abbrev t_Tx_read_92 : List UInt8 := 100 :: t_Tx_read_93
abbrev t_Tx_read_89 : List UInt8 := 180 :: 0 :: 186 :: t_Tx_read_92
abbrev t_Tx_read_88 : List UInt8 := 42 :: t_Tx_read_89
abbrev t_Tx_read_87 : List UInt8 := 4 :: t_Tx_read_88
abbrev t_Tx_read_86 : List UInt8 := 42 :: t_Tx_read_87
abbrev t_Tx_read_85 : List UInt8 := 172 :: t_Tx_read_86
abbrev t_Tx_read_84 : List UInt8 := 100 :: t_Tx_read_85
abbrev t_Tx_read_81 : List UInt8 := 180 :: 0 :: 159 :: t_Tx_read_84
abbrev t_Tx_read_80 : List UInt8 := 42 :: t_Tx_read_81
abbrev t_Tx_read_79 : List UInt8 := 2 :: t_Tx_read_80
abbrev t_Tx_read_76 : List UInt8 := 154 :: 0 :: 10 :: t_Tx_read_79
abbrev t_Tx_read_75 : List UInt8 := 27 :: t_Tx_read_76
abbrev t_Tx_read_72 : List UInt8 := 181 :: 0 :: 65 :: t_Tx_read_75
abbrev t_Tx_read_71 : List UInt8 := 3 :: t_Tx_read_72
abbrev t_Tx_read_70 : List UInt8 := 42 :: t_Tx_read_71
abbrev t_Tx_read_69 : List UInt8 := 60 :: t_Tx_read_70
abbrev t_Tx_read_68 : List UInt8 := 3 :: t_Tx_read_69
abbrev t_Tx_read_65 : List UInt8 := 167 :: 0 :: 4 :: t_Tx_read_68
abbrev t_Tx_read_64 : List UInt8 := 4 :: t_Tx_read_65
abbrev t_Tx_read_61 : List UInt8 := 153 :: 0 :: 7 :: t_Tx_read_64
abbrev t_Tx_read_58 : List UInt8 := 182 :: 1 :: 34 :: t_Tx_read_61
abbrev t_Tx_read_57 : List UInt8 := 42 :: t_Tx_read_58
abbrev t_Tx_read_54 : List UInt8 := 153 :: 0 :: 14 :: t_Tx_read_57
abbrev t_Tx_read_51 : List UInt8 := 182 :: 1 :: 31 :: t_Tx_read_54
abbrev t_Tx_read_50 : List UInt8 := 42 :: t_Tx_read_51
abbrev t_Tx_read_47 : List UInt8 := 181 :: 0 :: 159 :: t_Tx_read_50
abbrev t_Tx_read_46 : List UInt8 := 2 :: t_Tx_read_47
abbrev t_Tx_read_45 : List UInt8 := 42 :: t_Tx_read_46
abbrev t_Tx_read_42 : List UInt8 := 181 :: 1 :: 19 :: t_Tx_read_45
abbrev t_Tx_read_41 : List UInt8 := 3 :: t_Tx_read_42
abbrev t_Tx_read_40 : List UInt8 := 42 :: t_Tx_read_41
abbrev t_Tx_read_37 : List UInt8 := 181 :: 0 :: 201 :: t_Tx_read_40
abbrev t_Tx_read_36 : List UInt8 := 3 :: t_Tx_read_37
abbrev t_Tx_read_35 : List UInt8 := 42 :: t_Tx_read_36
abbrev t_Tx_read_32 : List UInt8 := 181 :: 0 :: 252 :: t_Tx_read_35
abbrev t_Tx_read_31 : List UInt8 := 3 :: t_Tx_read_32
abbrev t_Tx_read_30 : List UInt8 := 42 :: t_Tx_read_31
abbrev t_Tx_read_27 : List UInt8 := 181 :: 1 :: 25 :: t_Tx_read_30
abbrev t_Tx_read_26 : List UInt8 := 3 :: t_Tx_read_27
abbrev t_Tx_read_25 : List UInt8 := 42 :: t_Tx_read_26
abbrev t_Tx_read_22 : List UInt8 := 181 :: 0 :: 198 :: t_Tx_read_25
abbrev t_Tx_read_21 : List UInt8 := 3 :: t_Tx_read_22
abbrev t_Tx_read_20 : List UInt8 := 42 :: t_Tx_read_21
abbrev t_Tx_read_17 : List UInt8 := 181 :: 0 :: 189 :: t_Tx_read_20
abbrev t_Tx_read_16 : List UInt8 := 3 :: t_Tx_read_17
abbrev t_Tx_read_15 : List UInt8 := 42 :: t_Tx_read_16
abbrev t_Tx_read_12 : List UInt8 := 181 :: 0 :: 228 :: t_Tx_read_15
abbrev t_Tx_read_11 : List UInt8 := 3 :: t_Tx_read_12
abbrev t_Tx_read_10 : List UInt8 := 42 :: t_Tx_read_11
abbrev t_Tx_read_7 : List UInt8 := 181 :: 0 :: 140 :: t_Tx_read_10
abbrev t_Tx_read_6 : List UInt8 := 4 :: t_Tx_read_7
abbrev t_Tx_read_5 : List UInt8 := 42 :: t_Tx_read_6
abbrev t_Tx_read_2 : List UInt8 := 181 :: 0 :: 133 :: t_Tx_read_5
abbrev t_Tx_read_1 : List UInt8 := 3 :: t_Tx_read_2
abbrev t_Tx_read_0 : List UInt8 := 42 :: t_Tx_read_1
theorem a_Tx_read_0 : dk_at b_Tx_read 0 t_Tx_read_0 := dk_start (by decide +kernel)
theorem a_Tx_read_1 : dk_at b_Tx_read 1 t_Tx_read_1 := dk_go 1 a_Tx_read_0 rfl
theorem a_Tx_read_2 : dk_at b_Tx_read 2 t_Tx_read_2 := dk_go 1 a_Tx_read_1 rfl
theorem a_Tx_read_5 : dk_at b_Tx_read 5 t_Tx_read_5 := dk_go 3 a_Tx_read_2 rfl
theorem a_Tx_read_6 : dk_at b_Tx_read 6 t_Tx_read_6 := dk_go 1 a_Tx_read_5 rfl
theorem a_Tx_read_7 : dk_at b_Tx_read 7 t_Tx_read_7 := dk_go 1 a_Tx_read_6 rfl
theorem a_Tx_read_10 : dk_at b_Tx_read 10 t_Tx_read_10 := dk_go 3 a_Tx_read_7 rfl
theorem a_Tx_read_11 : dk_at b_Tx_read 11 t_Tx_read_11 := dk_go 1 a_Tx_read_10 rfl
theorem a_Tx_read_12 : dk_at b_Tx_read 12 t_Tx_read_12 := dk_go 1 a_Tx_read_11 rfl
theorem a_Tx_read_15 : dk_at b_Tx_read 15 t_Tx_read_15 := dk_go 3 a_Tx_read_12 rfl
theorem a_Tx_read_16 : dk_at b_Tx_read 16 t_Tx_read_16 := dk_go 1 a_Tx_read_15 rfl
theorem a_Tx_read_17 : dk_at b_Tx_read 17 t_Tx_read_17 := dk_go 1 a_Tx_read_16 rfl
theorem a_Tx_read_20 : dk_at b_Tx_read 20 t_Tx_read_20 := dk_go 3 a_Tx_read_17 rfl
theorem a_Tx_read_21 : dk_at b_Tx_read 21 t_Tx_read_21 := dk_go 1 a_Tx_read_20 rfl
theorem a_Tx_read_22 : dk_at b_Tx_read 22 t_Tx_read_22 := dk_go 1 a_Tx_read_21 rfl
theorem a_Tx_read_25 : dk_at b_Tx_read 25 t_Tx_read_25 := dk_go 3 a_Tx_read_22 rfl
theorem a_Tx_read_26 : dk_at b_Tx_read 26 t_Tx_read_26 := dk_go 1 a_Tx_read_25 rfl
theorem a_Tx_read_27 : dk_at b_Tx_read 27 t_Tx_read_27 := dk_go 1 a_Tx_read_26 rfl
theorem a_Tx_read_30 : dk_at b_Tx_read 30 t_Tx_read_30 := dk_go 3 a_Tx_read_27 rfl
theorem a_Tx_read_31 : dk_at b_Tx_read 31 t_Tx_read_31 := dk_go 1 a_Tx_read_30 rfl
theorem a_Tx_read_32 : dk_at b_Tx_read 32 t_Tx_read_32 := dk_go 1 a_Tx_read_31 rfl
theorem a_Tx_read_35 : dk_at b_Tx_read 35 t_Tx_read_35 := dk_go 3 a_Tx_read_32 rfl
theorem a_Tx_read_36 : dk_at b_Tx_read 36 t_Tx_read_36 := dk_go 1 a_Tx_read_35 rfl
theorem a_Tx_read_37 : dk_at b_Tx_read 37 t_Tx_read_37 := dk_go 1 a_Tx_read_36 rfl
theorem a_Tx_read_40 : dk_at b_Tx_read 40 t_Tx_read_40 := dk_go 3 a_Tx_read_37 rfl
theorem a_Tx_read_41 : dk_at b_Tx_read 41 t_Tx_read_41 := dk_go 1 a_Tx_read_40 rfl
theorem a_Tx_read_42 : dk_at b_Tx_read 42 t_Tx_read_42 := dk_go 1 a_Tx_read_41 rfl
theorem a_Tx_read_45 : dk_at b_Tx_read 45 t_Tx_read_45 := dk_go 3 a_Tx_read_42 rfl
theorem a_Tx_read_46 : dk_at b_Tx_read 46 t_Tx_read_46 := dk_go 1 a_Tx_read_45 rfl
theorem a_Tx_read_47 : dk_at b_Tx_read 47 t_Tx_read_47 := dk_go 1 a_Tx_read_46 rfl
theorem a_Tx_read_50 : dk_at b_Tx_read 50 t_Tx_read_50 := dk_go 3 a_Tx_read_47 rfl
theorem a_Tx_read_51 : dk_at b_Tx_read 51 t_Tx_read_51 := dk_go 1 a_Tx_read_50 rfl
theorem a_Tx_read_54 : dk_at b_Tx_read 54 t_Tx_read_54 := dk_go 3 a_Tx_read_51 rfl
theorem a_Tx_read_57 : dk_at b_Tx_read 57 t_Tx_read_57 := dk_go 3 a_Tx_read_54 rfl
theorem a_Tx_read_58 : dk_at b_Tx_read 58 t_Tx_read_58 := dk_go 1 a_Tx_read_57 rfl
theorem a_Tx_read_61 : dk_at b_Tx_read 61 t_Tx_read_61 := dk_go 3 a_Tx_read_58 rfl
theorem a_Tx_read_64 : dk_at b_Tx_read 64 t_Tx_read_64 := dk_go 3 a_Tx_read_61 rfl
theorem a_Tx_read_65 : dk_at b_Tx_read 65 t_Tx_read_65 := dk_go 1 a_Tx_read_64 rfl
theorem a_Tx_read_68 : dk_at b_Tx_read 68 t_Tx_read_68 := dk_go 3 a_Tx_read_65 rfl
theorem a_Tx_read_69 : dk_at b_Tx_read 69 t_Tx_read_69 := dk_go 1 a_Tx_read_68 rfl
theorem a_Tx_read_70 : dk_at b_Tx_read 70 t_Tx_read_70 := dk_go 1 a_Tx_read_69 rfl
theorem a_Tx_read_71 : dk_at b_Tx_read 71 t_Tx_read_71 := dk_go 1 a_Tx_read_70 rfl
theorem a_Tx_read_72 : dk_at b_Tx_read 72 t_Tx_read_72 := dk_go 1 a_Tx_read_71 rfl
theorem a_Tx_read_75 : dk_at b_Tx_read 75 t_Tx_read_75 := dk_go 3 a_Tx_read_72 rfl
theorem a_Tx_read_76 : dk_at b_Tx_read 76 t_Tx_read_76 := dk_go 1 a_Tx_read_75 rfl
theorem a_Tx_read_79 : dk_at b_Tx_read 79 t_Tx_read_79 := dk_go 3 a_Tx_read_76 rfl
theorem a_Tx_read_80 : dk_at b_Tx_read 80 t_Tx_read_80 := dk_go 1 a_Tx_read_79 rfl
theorem a_Tx_read_81 : dk_at b_Tx_read 81 t_Tx_read_81 := dk_go 1 a_Tx_read_80 rfl
theorem a_Tx_read_84 : dk_at b_Tx_read 84 t_Tx_read_84 := dk_go 3 a_Tx_read_81 rfl
theorem a_Tx_read_85 : dk_at b_Tx_read 85 t_Tx_read_85 := dk_go 1 a_Tx_read_84 rfl
theorem a_Tx_read_86 : dk_at b_Tx_read 86 t_Tx_read_86 := dk_go 1 a_Tx_read_85 rfl
theorem a_Tx_read_87 : dk_at b_Tx_read 87 t_Tx_read_87 := dk_go 1 a_Tx_read_86 rfl
theorem a_Tx_read_88 : dk_at b_Tx_read 88 t_Tx_read_88 := dk_go 1 a_Tx_read_87 rfl
theorem a_Tx_read_89 : dk_at b_Tx_read 89 t_Tx_read_89 := dk_go 1 a_Tx_read_88 rfl
theorem a_Tx_read_92 : dk_at b_Tx_read 92 t_Tx_read_92 := dk_go 3 a_Tx_read_89 rfl
theorem a_Tx_read_93 : dk_at b_Tx_read 93 t_Tx_read_93 := dk_go 1 a_Tx_read_92 rfl
theorem a_Tx_read_96 : dk_at b_Tx_read 96 t_Tx_read_96 := dk_go 3 a_Tx_read_93 rfl
theorem a_Tx_read_97 : dk_at b_Tx_read 97 t_Tx_read_97 := dk_go 1 a_Tx_read_96 rfl
theorem a_Tx_read_98 : dk_at b_Tx_read 98 t_Tx_read_98 := dk_go 1 a_Tx_read_97 rfl
theorem a_Tx_read_101 : dk_at b_Tx_read 101 t_Tx_read_101 := dk_go 3 a_Tx_read_98 rfl
theorem a_Tx_read_104 : dk_at b_Tx_read 104 t_Tx_read_104 := dk_go 3 a_Tx_read_101 rfl
theorem a_Tx_read_105 : dk_at b_Tx_read 105 t_Tx_read_105 := dk_go 1 a_Tx_read_104 rfl
theorem a_Tx_read_106 : dk_at b_Tx_read 106 t_Tx_read_106 := dk_go 1 a_Tx_read_105 rfl
theorem a_Tx_read_109 : dk_at b_Tx_read 109 t_Tx_read_109 := dk_go 3 a_Tx_read_106 rfl
theorem a_Tx_read_112 : dk_at b_Tx_read 112 t_Tx_read_112 := dk_go 3 a_Tx_read_109 rfl
theorem a_Tx_read_113 : dk_at b_Tx_read 113 t_Tx_read_113 := dk_go 1 a_Tx_read_112 rfl
theorem a_Tx_read_114 : dk_at b_Tx_read 114 t_Tx_read_114 := dk_go 1 a_Tx_read_113 rfl
theorem a_Tx_read_117 : dk_at b_Tx_read 117 t_Tx_read_117 := dk_go 3 a_Tx_read_114 rfl
theorem a_Tx_read_120 : dk_at b_Tx_read 120 t_Tx_read_120 := dk_go 3 a_Tx_read_117 rfl
theorem a_Tx_read_121 : dk_at b_Tx_read 121 t_Tx_read_121 := dk_go 1 a_Tx_read_120 rfl
theorem a_Tx_read_122 : dk_at b_Tx_read 122 t_Tx_read_122 := dk_go 1 a_Tx_read_121 rfl
theorem a_Tx_read_125 : dk_at b_Tx_read 125 t_Tx_read_125 := dk_go 3 a_Tx_read_122 rfl
theorem a_Tx_read_128 : dk_at b_Tx_read 128 t_Tx_read_128 := dk_go 3 a_Tx_read_125 rfl
theorem a_Tx_read_129 : dk_at b_Tx_read 129 t_Tx_read_129 := dk_go 1 a_Tx_read_128 rfl
theorem a_Tx_read_132 : dk_at b_Tx_read 132 t_Tx_read_132 := dk_go 3 a_Tx_read_129 rfl
theorem d_Tx_read_0 : decode b_Tx_read 0 = .ok (.aload_n 0, 1) := dk_0 a_Tx_read_0 (dko_42 _)
theorem d_Tx_read_1 : decode b_Tx_read 1 = .ok (.iconst 0, 1) := dk_0 a_Tx_read_1 (dko_3 _)
theorem d_Tx_read_2 : decode b_Tx_read 2 = .ok (.putfield 133, 3) := dk_U2 a_Tx_read_2 (dko_181 _) rfl
theorem d_Tx_read_5 : decode b_Tx_read 5 = .ok (.aload_n 0, 1) := dk_0 a_Tx_read_5 (dko_42 _)
theorem d_Tx_read_6 : decode b_Tx_read 6 = .ok (.iconst 1, 1) := dk_0 a_Tx_read_6 (dko_4 _)
theorem d_Tx_read_7 : decode b_Tx_read 7 = .ok (.putfield 140, 3) := dk_U2 a_Tx_read_7 (dko_181 _) rfl
theorem d_Tx_read_10 : decode b_Tx_read 10 = .ok (.aload_n 0, 1) := dk_0 a_Tx_read_10 (dko_42 _)
theorem d_Tx_read_11 : decode b_Tx_read 11 = .ok (.iconst 0, 1) := dk_0 a_Tx_read_11 (dko_3 _)
theorem d_Tx_read_12 : decode b_Tx_read 12 = .ok (.putfield 228, 3) := dk_U2 a_Tx_read_12 (dko_181 _) rfl
theorem d_Tx_read_15 : decode b_Tx_read 15 = .ok (.aload_n 0, 1) := dk_0 a_Tx_read_15 (dko_42 _)
theorem d_Tx_read_16 : decode b_Tx_read 16 = .ok (.iconst 0, 1) := dk_0 a_Tx_read_16 (dko_3 _)
theorem d_Tx_read_17 : decode b_Tx_read 17 = .ok (.putfield 189, 3) := dk_U2 a_Tx_read_17 (dko_181 _) rfl
theorem d_Tx_read_20 : decode b_Tx_read 20 = .ok (.aload_n 0, 1) := dk_0 a_Tx_read_20 (dko_42 _)
theorem d_Tx_read_21 : decode b_Tx_read 21 = .ok (.iconst 0, 1) := dk_0 a_Tx_read_21 (dko_3 _)
theorem d_Tx_read_22 : decode b_Tx_read 22 = .ok (.putfield 198, 3) := dk_U2 a_Tx_read_22 (dko_181 _) rfl
theorem d_Tx_read_25 : decode b_Tx_read 25 = .ok (.aload_n 0, 1) := dk_0 a_Tx_read_25 (dko_42 _)
theorem d_Tx_read_26 : decode b_Tx_read 26 = .ok (.iconst 0, 1) := dk_0 a_Tx_read_26 (dko_3 _)
theorem d_Tx_read_27 : decode b_Tx_read 27 = .ok (.putfield 281, 3) := dk_U2 a_Tx_read_27 (dko_181 _) rfl
theorem d_Tx_read_30 : decode b_Tx_read 30 = .ok (.aload_n 0, 1) := dk_0 a_Tx_read_30 (dko_42 _)
theorem d_Tx_read_31 : decode b_Tx_read 31 = .ok (.iconst 0, 1) := dk_0 a_Tx_read_31 (dko_3 _)
theorem d_Tx_read_32 : decode b_Tx_read 32 = .ok (.putfield 252, 3) := dk_U2 a_Tx_read_32 (dko_181 _) rfl
theorem d_Tx_read_35 : decode b_Tx_read 35 = .ok (.aload_n 0, 1) := dk_0 a_Tx_read_35 (dko_42 _)
theorem d_Tx_read_36 : decode b_Tx_read 36 = .ok (.iconst 0, 1) := dk_0 a_Tx_read_36 (dko_3 _)
theorem d_Tx_read_37 : decode b_Tx_read 37 = .ok (.putfield 201, 3) := dk_U2 a_Tx_read_37 (dko_181 _) rfl
theorem d_Tx_read_40 : decode b_Tx_read 40 = .ok (.aload_n 0, 1) := dk_0 a_Tx_read_40 (dko_42 _)
theorem d_Tx_read_41 : decode b_Tx_read 41 = .ok (.iconst 0, 1) := dk_0 a_Tx_read_41 (dko_3 _)
theorem d_Tx_read_42 : decode b_Tx_read 42 = .ok (.putfield 275, 3) := dk_U2 a_Tx_read_42 (dko_181 _) rfl
theorem d_Tx_read_45 : decode b_Tx_read 45 = .ok (.aload_n 0, 1) := dk_0 a_Tx_read_45 (dko_42 _)
theorem d_Tx_read_46 : decode b_Tx_read 46 = .ok (.iconst (-1), 1) := dk_0 a_Tx_read_46 (dko_2 _)
theorem d_Tx_read_47 : decode b_Tx_read 47 = .ok (.putfield 159, 3) := dk_U2 a_Tx_read_47 (dko_181 _) rfl
theorem d_Tx_read_50 : decode b_Tx_read 50 = .ok (.aload_n 0, 1) := dk_0 a_Tx_read_50 (dko_42 _)
theorem d_Tx_read_51 : decode b_Tx_read 51 = .ok (.invokevirtual 287, 3) := dk_U2 a_Tx_read_51 (dko_182 _) rfl
theorem d_Tx_read_54 : decode b_Tx_read 54 = .ok (.ifCond .eq 14, 3) := dk_S2 a_Tx_read_54 (dko_153 _) (by decide +kernel)
theorem d_Tx_read_57 : decode b_Tx_read 57 = .ok (.aload_n 0, 1) := dk_0 a_Tx_read_57 (dko_42 _)
theorem d_Tx_read_58 : decode b_Tx_read 58 = .ok (.invokevirtual 290, 3) := dk_U2 a_Tx_read_58 (dko_182 _) rfl
theorem d_Tx_read_61 : decode b_Tx_read 61 = .ok (.ifCond .eq 7, 3) := dk_S2 a_Tx_read_61 (dko_153 _) (by decide +kernel)
theorem d_Tx_read_64 : decode b_Tx_read 64 = .ok (.iconst 1, 1) := dk_0 a_Tx_read_64 (dko_4 _)
theorem d_Tx_read_65 : decode b_Tx_read 65 = .ok (.goto 4, 3) := dk_S2 a_Tx_read_65 (dko_167 _) (by decide +kernel)
theorem d_Tx_read_69 : decode b_Tx_read 69 = .ok (.istore_n 1, 1) := dk_0 a_Tx_read_69 (dko_60 _)
theorem d_Tx_read_70 : decode b_Tx_read 70 = .ok (.aload_n 0, 1) := dk_0 a_Tx_read_70 (dko_42 _)
theorem d_Tx_read_71 : decode b_Tx_read 71 = .ok (.iconst 0, 1) := dk_0 a_Tx_read_71 (dko_3 _)
theorem d_Tx_read_72 : decode b_Tx_read 72 = .ok (.putfield 65, 3) := dk_U2 a_Tx_read_72 (dko_181 _) rfl
theorem d_Tx_read_75 : decode b_Tx_read 75 = .ok (.iload_n 1, 1) := dk_0 a_Tx_read_75 (dko_27 _)
theorem d_Tx_read_76 : decode b_Tx_read 76 = .ok (.ifCond .ne 10, 3) := dk_S2 a_Tx_read_76 (dko_154 _) (by decide +kernel)
theorem d_Tx_read_86 : decode b_Tx_read 86 = .ok (.aload_n 0, 1) := dk_0 a_Tx_read_86 (dko_42 _)
theorem d_Tx_read_87 : decode b_Tx_read 87 = .ok (.iconst 1, 1) := dk_0 a_Tx_read_87 (dko_4 _)
theorem d_Tx_read_88 : decode b_Tx_read 88 = .ok (.aload_n 0, 1) := dk_0 a_Tx_read_88 (dko_42 _)
theorem d_Tx_read_89 : decode b_Tx_read 89 = .ok (.getfield 186, 3) := dk_U2 a_Tx_read_89 (dko_180 _) rfl
theorem d_Tx_read_92 : decode b_Tx_read 92 = .ok (.isub, 1) := dk_0 a_Tx_read_92 (dko_100 _)
theorem d_Tx_read_93 : decode b_Tx_read 93 = .ok (.putfield 186, 3) := dk_U2 a_Tx_read_93 (dko_181 _) rfl
theorem d_Tx_read_96 : decode b_Tx_read 96 = .ok (.aload_n 0, 1) := dk_0 a_Tx_read_96 (dko_42 _)
theorem d_Tx_read_97 : decode b_Tx_read 97 = .ok (.aload_n 0, 1) := dk_0 a_Tx_read_97 (dko_42 _)
theorem d_Tx_read_98 : decode b_Tx_read 98 = .ok (.getfield 189, 3) := dk_U2 a_Tx_read_98 (dko_180 _) rfl
theorem d_Tx_read_101 : decode b_Tx_read 101 = .ok (.putfield 293, 3) := dk_U2 a_Tx_read_101 (dko_181 _) rfl
theorem d_Tx_read_104 : decode b_Tx_read 104 = .ok (.aload_n 0, 1) := dk_0 a_Tx_read_104 (dko_42 _)
theorem d_Tx_read_105 : decode b_Tx_read 105 = .ok (.aload_n 0, 1) := dk_0 a_Tx_read_105 (dko_42 _)
theorem d_Tx_read_106 : decode b_Tx_read 106 = .ok (.getfield 281, 3) := dk_U2 a_Tx_read_106 (dko_180 _) rfl
theorem d_Tx_read_109 : decode b_Tx_read 109 = .ok (.putfield 296, 3) := dk_U2 a_Tx_read_109 (dko_181 _) rfl
theorem d_Tx_read_112 : decode b_Tx_read 112 = .ok (.aload_n 0, 1) := dk_0 a_Tx_read_112 (dko_42 _)
theorem d_Tx_read_113 : decode b_Tx_read 113 = .ok (.aload_n 0, 1) := dk_0 a_Tx_read_113 (dko_42 _)
theorem d_Tx_read_114 : decode b_Tx_read 114 = .ok (.getfield 252, 3) := dk_U2 a_Tx_read_114 (dko_180 _) rfl
theorem d_Tx_read_117 : decode b_Tx_read 117 = .ok (.putfield 299, 3) := dk_U2 a_Tx_read_117 (dko_181 _) rfl
theorem d_Tx_read_120 : decode b_Tx_read 120 = .ok (.aload_n 0, 1) := dk_0 a_Tx_read_120 (dko_42 _)
theorem d_Tx_read_121 : decode b_Tx_read 121 = .ok (.aload_n 0, 1) := dk_0 a_Tx_read_121 (dko_42 _)
theorem d_Tx_read_122 : decode b_Tx_read 122 = .ok (.getfield 275, 3) := dk_U2 a_Tx_read_122 (dko_180 _) rfl
theorem d_Tx_read_125 : decode b_Tx_read 125 = .ok (.putfield 302, 3) := dk_U2 a_Tx_read_125 (dko_181 _) rfl
theorem d_Tx_read_128 : decode b_Tx_read 128 = .ok (.aload_n 0, 1) := dk_0 a_Tx_read_128 (dko_42 _)
theorem d_Tx_read_129 : decode b_Tx_read 129 = .ok (.getfield 302, 3) := dk_U2 a_Tx_read_129 (dko_180 _) rfl
theorem d_Tx_read_132 : decode b_Tx_read 132 = .ok (.ireturn, 1) := dk_0 a_Tx_read_132 (dko_172 _)
set_option maxHeartbeats 4000000 in
set_option maxRecDepth 100000 in
theorem c_Tx_read (l : Launch) (dC : Nat → ClassId) (dI : Nat → Nat → Nat) (cI cB cZ cJ : ClassId) (oT : Nat) (ft : List Value) (ht_size : fx ft 1 (.int 0)) (ht_place : fx ft 2 (.int 0)) (ht_nowLine : fx ft 3 (.int 0)) (ht_token : fx ft 4 (.int 0)) (ht_begin : fx ft 5 (.int 0)) (ht_end : fx ft 6 (.int 0)) (ht_tokenLine : fx ft 7 (.int 0)) (ht_wrong : fx ft 10 (.int 0)) (ht_open : fx ft 11 (.int 0)) (ht_half : fx ft 12 (.int 0)) (ht_nodes : fx ft 13 (.int 0)) (ht_kidsMade : fx ft 21 (.int 0)) (ht_topsMade : fx ft 23 (.int 0)) (ht_names : fx ft 24 (.int 0)) (ht_nodeCount : fx ft 30 (.int 0)) (ht_topCount : fx ft 31 (.int 0)) (ht_nameCount : fx ft 32 (.int 0)) (ht_statements : fx ft 33 (.int 0)) (ht_high : fx ft 35 (.int 0)) (ht_made : fx ft 38 (.int 0)) (sz : Nat) : Met l y_Tx_read w_Tx_read ({ frames := 3, cells := 0, slots := 0, locals := 65 }) (va_Pc [.ref oT] (PW dC dI cI cB cZ cJ [(oT, .inr (13, ft))] sz)) (va_Qi (fun (r : Int32) (_ : Unit) => r = 0) (fun _ _ => True) (va_A [(oT, .inr (13, ft))] sz)) 0 0 (va_A [(oT, .inr (13, ft))] sz) := by
  refine Met.ofW (cc := b_Tx_read) (maxL := 2) (ret := (some .int)) (by decide) rfl ?_
  intro p e s m args below meth c s₁ B hml hv
  obtain ⟨rfl, hsz, hP, hK, hD⟩ := hv
  have hx := B.exec
  have hb := B.bytes
  have hr := B.returns
  have hts := atoms_spec (ws := w_Tx_read) B.pre
  have hown : s.vm.findClass R_Tx = some m.cls := findClass_of_methodNamed B.named
  have hlocks := B.notSynchronized
  subst hsz
  have hD := hD.self (sz := s.heap.size)
  generalize hAe : va_A [(oT, .inr (13, ft))] s.heap.size = A at hD ⊢
  have hA : ∀ q : Nat, s.heap.size ≤ q → A q := fun q h => by rw [← hAe]; exact Or.inr h
  have hS : va_S A s.heap s.heap [] := va_S.rf
  have hP : va_P (dC, dI) classes [(oT, .inr (13, ft))] s.heap := hP
  have hl := lv_entry ([.ref oT]) (n := 2) (Nat.le_of_ble_eq_true rfl)
  rw [lg_entry_eq]
  generalize (lg_sl ([.ref oT]) ++ List.replicate (2 - (lg_sl ([.ref oT])).length) Slot.unset).toArray = ls at hl ⊢
  have hl : lv_has ls 2 [(0, .ref oT)] := hl
  refine lv_aload_n hx hb d_Tx_read_0 rfl (lv_at hl 0 rfl) ?_
  refine lv_iconst (v := 0) hx hb d_Tx_read_1 (by decide) ?_
  refine va_put (D := (dC, dI)) (ci := 13) (v := .int 0) (ty := .int) (C := R_Tx) (T := F_Tx) (N := 39) hx hb hts (fun w h => List.mem_cons_of_mem _ (in_Tx w h)) t_Tx t_Tx_ok n_Tx hown hK.1 hP hD hS 0 rfl rfl 2 (by decide) (hts _ (List.mem_cons_of_mem _ mw_1581)) (fun _ h9 => h9) rfl (by decide +kernel) rfl rfl (st_lt ht_place) d_Tx_read_2 (fun H locs hP hD hS => ?_)
  have g2_5 : fx (ft.set 2 (.int 0)) 5 (.int 0) := (st_ne ht_begin (by decide))
  have g2_6 : fx (ft.set 2 (.int 0)) 6 (.int 0) := (st_ne ht_end (by decide))
  have g2_12 : fx (ft.set 2 (.int 0)) 12 (.int 0) := (st_ne ht_half (by decide))
  have g2_35 : fx (ft.set 2 (.int 0)) 35 (.int 0) := (st_ne ht_high (by decide))
  have g2_21 : fx (ft.set 2 (.int 0)) 21 (.int 0) := (st_ne ht_kidsMade (by decide))
  have g2_38 : fx (ft.set 2 (.int 0)) 38 (.int 0) := (st_ne ht_made (by decide))
  have g2_32 : fx (ft.set 2 (.int 0)) 32 (.int 0) := (st_ne ht_nameCount (by decide))
  have g2_24 : fx (ft.set 2 (.int 0)) 24 (.int 0) := (st_ne ht_names (by decide))
  have g2_30 : fx (ft.set 2 (.int 0)) 30 (.int 0) := (st_ne ht_nodeCount (by decide))
  have g2_13 : fx (ft.set 2 (.int 0)) 13 (.int 0) := (st_ne ht_nodes (by decide))
  have g2_3 : fx (ft.set 2 (.int 0)) 3 (.int 0) := (st_ne ht_nowLine (by decide))
  have g2_11 : fx (ft.set 2 (.int 0)) 11 (.int 0) := (st_ne ht_open (by decide))
  have g2_2 : fx (ft.set 2 (.int 0)) 2 (.int 0) := (st_eq ht_place)
  have g2_1 : fx (ft.set 2 (.int 0)) 1 (.int 0) := (st_ne ht_size (by decide))
  have g2_33 : fx (ft.set 2 (.int 0)) 33 (.int 0) := (st_ne ht_statements (by decide))
  have g2_4 : fx (ft.set 2 (.int 0)) 4 (.int 0) := (st_ne ht_token (by decide))
  have g2_7 : fx (ft.set 2 (.int 0)) 7 (.int 0) := (st_ne ht_tokenLine (by decide))
  have g2_31 : fx (ft.set 2 (.int 0)) 31 (.int 0) := (st_ne ht_topCount (by decide))
  have g2_23 : fx (ft.set 2 (.int 0)) 23 (.int 0) := (st_ne ht_topsMade (by decide))
  have g2_10 : fx (ft.set 2 (.int 0)) 10 (.int 0) := (st_ne ht_wrong (by decide))
  have hP : va_P (dC, dI) classes [(oT, .inr (13, (ft.set 2 (.int 0))))] H := hP
  have hD : va_D A [(oT, .inr (13, (ft.set 2 (.int 0))))] := hD
  refine lv_aload_n hx hb d_Tx_read_5 rfl (lv_at hl 0 rfl) ?_
  refine lv_iconst (v := 1) hx hb d_Tx_read_6 (by decide) ?_
  refine va_put (D := (dC, dI)) (ci := 13) (v := .int 1) (ty := .int) (C := R_Tx) (T := F_Tx) (N := 39) hx hb hts (fun w h => List.mem_cons_of_mem _ (in_Tx w h)) t_Tx t_Tx_ok n_Tx hown hK.1 hP hD hS 0 rfl rfl 3 (by decide) (hts _ (List.mem_cons_of_mem _ mw_1582)) (fun _ h9 => h9) rfl (by decide +kernel) rfl rfl (st_lt g2_3) d_Tx_read_7 (fun H locs hP hD hS => ?_)
  have g7_5 : fx ((ft.set 2 (.int 0)).set 3 (.int 1)) 5 (.int 0) := (st_ne g2_5 (by decide))
  have g7_6 : fx ((ft.set 2 (.int 0)).set 3 (.int 1)) 6 (.int 0) := (st_ne g2_6 (by decide))
  have g7_12 : fx ((ft.set 2 (.int 0)).set 3 (.int 1)) 12 (.int 0) := (st_ne g2_12 (by decide))
  have g7_35 : fx ((ft.set 2 (.int 0)).set 3 (.int 1)) 35 (.int 0) := (st_ne g2_35 (by decide))
  have g7_21 : fx ((ft.set 2 (.int 0)).set 3 (.int 1)) 21 (.int 0) := (st_ne g2_21 (by decide))
  have g7_38 : fx ((ft.set 2 (.int 0)).set 3 (.int 1)) 38 (.int 0) := (st_ne g2_38 (by decide))
  have g7_32 : fx ((ft.set 2 (.int 0)).set 3 (.int 1)) 32 (.int 0) := (st_ne g2_32 (by decide))
  have g7_24 : fx ((ft.set 2 (.int 0)).set 3 (.int 1)) 24 (.int 0) := (st_ne g2_24 (by decide))
  have g7_30 : fx ((ft.set 2 (.int 0)).set 3 (.int 1)) 30 (.int 0) := (st_ne g2_30 (by decide))
  have g7_13 : fx ((ft.set 2 (.int 0)).set 3 (.int 1)) 13 (.int 0) := (st_ne g2_13 (by decide))
  have g7_3 : fx ((ft.set 2 (.int 0)).set 3 (.int 1)) 3 (.int 1) := (st_eq g2_3)
  have g7_11 : fx ((ft.set 2 (.int 0)).set 3 (.int 1)) 11 (.int 0) := (st_ne g2_11 (by decide))
  have g7_2 : fx ((ft.set 2 (.int 0)).set 3 (.int 1)) 2 (.int 0) := (st_ne g2_2 (by decide))
  have g7_1 : fx ((ft.set 2 (.int 0)).set 3 (.int 1)) 1 (.int 0) := (st_ne g2_1 (by decide))
  have g7_33 : fx ((ft.set 2 (.int 0)).set 3 (.int 1)) 33 (.int 0) := (st_ne g2_33 (by decide))
  have g7_4 : fx ((ft.set 2 (.int 0)).set 3 (.int 1)) 4 (.int 0) := (st_ne g2_4 (by decide))
  have g7_7 : fx ((ft.set 2 (.int 0)).set 3 (.int 1)) 7 (.int 0) := (st_ne g2_7 (by decide))
  have g7_31 : fx ((ft.set 2 (.int 0)).set 3 (.int 1)) 31 (.int 0) := (st_ne g2_31 (by decide))
  have g7_23 : fx ((ft.set 2 (.int 0)).set 3 (.int 1)) 23 (.int 0) := (st_ne g2_23 (by decide))
  have g7_10 : fx ((ft.set 2 (.int 0)).set 3 (.int 1)) 10 (.int 0) := (st_ne g2_10 (by decide))
  have hP : va_P (dC, dI) classes [(oT, .inr (13, ((ft.set 2 (.int 0)).set 3 (.int 1))))] H := hP
  have hD : va_D A [(oT, .inr (13, ((ft.set 2 (.int 0)).set 3 (.int 1))))] := hD
  refine lv_aload_n hx hb d_Tx_read_10 rfl (lv_at hl 0 rfl) ?_
  refine lv_iconst (v := 0) hx hb d_Tx_read_11 (by decide) ?_
  refine va_put (D := (dC, dI)) (ci := 13) (v := .int 0) (ty := .int) (C := R_Tx) (T := F_Tx) (N := 39) hx hb hts (fun w h => List.mem_cons_of_mem _ (in_Tx w h)) t_Tx t_Tx_ok n_Tx hown hK.1 hP hD hS 0 rfl rfl 11 (by decide) (hts _ (List.mem_cons_of_mem _ mw_1590)) (fun _ h9 => h9) rfl (by decide +kernel) rfl rfl (st_lt g7_11) d_Tx_read_12 (fun H locs hP hD hS => ?_)
  have g12_5 : fx (((ft.set 2 (.int 0)).set 3 (.int 1)).set 11 (.int 0)) 5 (.int 0) := (st_ne g7_5 (by decide))
  have g12_6 : fx (((ft.set 2 (.int 0)).set 3 (.int 1)).set 11 (.int 0)) 6 (.int 0) := (st_ne g7_6 (by decide))
  have g12_12 : fx (((ft.set 2 (.int 0)).set 3 (.int 1)).set 11 (.int 0)) 12 (.int 0) := (st_ne g7_12 (by decide))
  have g12_35 : fx (((ft.set 2 (.int 0)).set 3 (.int 1)).set 11 (.int 0)) 35 (.int 0) := (st_ne g7_35 (by decide))
  have g12_21 : fx (((ft.set 2 (.int 0)).set 3 (.int 1)).set 11 (.int 0)) 21 (.int 0) := (st_ne g7_21 (by decide))
  have g12_38 : fx (((ft.set 2 (.int 0)).set 3 (.int 1)).set 11 (.int 0)) 38 (.int 0) := (st_ne g7_38 (by decide))
  have g12_32 : fx (((ft.set 2 (.int 0)).set 3 (.int 1)).set 11 (.int 0)) 32 (.int 0) := (st_ne g7_32 (by decide))
  have g12_24 : fx (((ft.set 2 (.int 0)).set 3 (.int 1)).set 11 (.int 0)) 24 (.int 0) := (st_ne g7_24 (by decide))
  have g12_30 : fx (((ft.set 2 (.int 0)).set 3 (.int 1)).set 11 (.int 0)) 30 (.int 0) := (st_ne g7_30 (by decide))
  have g12_13 : fx (((ft.set 2 (.int 0)).set 3 (.int 1)).set 11 (.int 0)) 13 (.int 0) := (st_ne g7_13 (by decide))
  have g12_3 : fx (((ft.set 2 (.int 0)).set 3 (.int 1)).set 11 (.int 0)) 3 (.int 1) := (st_ne g7_3 (by decide))
  have g12_11 : fx (((ft.set 2 (.int 0)).set 3 (.int 1)).set 11 (.int 0)) 11 (.int 0) := (st_eq g7_11)
  have g12_2 : fx (((ft.set 2 (.int 0)).set 3 (.int 1)).set 11 (.int 0)) 2 (.int 0) := (st_ne g7_2 (by decide))
  have g12_1 : fx (((ft.set 2 (.int 0)).set 3 (.int 1)).set 11 (.int 0)) 1 (.int 0) := (st_ne g7_1 (by decide))
  have g12_33 : fx (((ft.set 2 (.int 0)).set 3 (.int 1)).set 11 (.int 0)) 33 (.int 0) := (st_ne g7_33 (by decide))
  have g12_4 : fx (((ft.set 2 (.int 0)).set 3 (.int 1)).set 11 (.int 0)) 4 (.int 0) := (st_ne g7_4 (by decide))
  have g12_7 : fx (((ft.set 2 (.int 0)).set 3 (.int 1)).set 11 (.int 0)) 7 (.int 0) := (st_ne g7_7 (by decide))
  have g12_31 : fx (((ft.set 2 (.int 0)).set 3 (.int 1)).set 11 (.int 0)) 31 (.int 0) := (st_ne g7_31 (by decide))
  have g12_23 : fx (((ft.set 2 (.int 0)).set 3 (.int 1)).set 11 (.int 0)) 23 (.int 0) := (st_ne g7_23 (by decide))
  have g12_10 : fx (((ft.set 2 (.int 0)).set 3 (.int 1)).set 11 (.int 0)) 10 (.int 0) := (st_ne g7_10 (by decide))
  have hP : va_P (dC, dI) classes [(oT, .inr (13, (((ft.set 2 (.int 0)).set 3 (.int 1)).set 11 (.int 0))))] H := hP
  have hD : va_D A [(oT, .inr (13, (((ft.set 2 (.int 0)).set 3 (.int 1)).set 11 (.int 0))))] := hD
  refine lv_aload_n hx hb d_Tx_read_15 rfl (lv_at hl 0 rfl) ?_
  refine lv_iconst (v := 0) hx hb d_Tx_read_16 (by decide) ?_
  refine va_put (D := (dC, dI)) (ci := 13) (v := .int 0) (ty := .int) (C := R_Tx) (T := F_Tx) (N := 39) hx hb hts (fun w h => List.mem_cons_of_mem _ (in_Tx w h)) t_Tx t_Tx_ok n_Tx hown hK.1 hP hD hS 0 rfl rfl 13 (by decide) (hts _ (List.mem_cons_of_mem _ mw_1593)) (fun _ h9 => h9) rfl (by decide +kernel) rfl rfl (st_lt g12_13) d_Tx_read_17 (fun H locs hP hD hS => ?_)
  have g17_5 : fx ((((ft.set 2 (.int 0)).set 3 (.int 1)).set 11 (.int 0)).set 13 (.int 0)) 5 (.int 0) := (st_ne g12_5 (by decide))
  have g17_6 : fx ((((ft.set 2 (.int 0)).set 3 (.int 1)).set 11 (.int 0)).set 13 (.int 0)) 6 (.int 0) := (st_ne g12_6 (by decide))
  have g17_12 : fx ((((ft.set 2 (.int 0)).set 3 (.int 1)).set 11 (.int 0)).set 13 (.int 0)) 12 (.int 0) := (st_ne g12_12 (by decide))
  have g17_35 : fx ((((ft.set 2 (.int 0)).set 3 (.int 1)).set 11 (.int 0)).set 13 (.int 0)) 35 (.int 0) := (st_ne g12_35 (by decide))
  have g17_21 : fx ((((ft.set 2 (.int 0)).set 3 (.int 1)).set 11 (.int 0)).set 13 (.int 0)) 21 (.int 0) := (st_ne g12_21 (by decide))
  have g17_38 : fx ((((ft.set 2 (.int 0)).set 3 (.int 1)).set 11 (.int 0)).set 13 (.int 0)) 38 (.int 0) := (st_ne g12_38 (by decide))
  have g17_32 : fx ((((ft.set 2 (.int 0)).set 3 (.int 1)).set 11 (.int 0)).set 13 (.int 0)) 32 (.int 0) := (st_ne g12_32 (by decide))
  have g17_24 : fx ((((ft.set 2 (.int 0)).set 3 (.int 1)).set 11 (.int 0)).set 13 (.int 0)) 24 (.int 0) := (st_ne g12_24 (by decide))
  have g17_30 : fx ((((ft.set 2 (.int 0)).set 3 (.int 1)).set 11 (.int 0)).set 13 (.int 0)) 30 (.int 0) := (st_ne g12_30 (by decide))
  have g17_13 : fx ((((ft.set 2 (.int 0)).set 3 (.int 1)).set 11 (.int 0)).set 13 (.int 0)) 13 (.int 0) := (st_eq g12_13)
  have g17_3 : fx ((((ft.set 2 (.int 0)).set 3 (.int 1)).set 11 (.int 0)).set 13 (.int 0)) 3 (.int 1) := (st_ne g12_3 (by decide))
  have g17_11 : fx ((((ft.set 2 (.int 0)).set 3 (.int 1)).set 11 (.int 0)).set 13 (.int 0)) 11 (.int 0) := (st_ne g12_11 (by decide))
  have g17_2 : fx ((((ft.set 2 (.int 0)).set 3 (.int 1)).set 11 (.int 0)).set 13 (.int 0)) 2 (.int 0) := (st_ne g12_2 (by decide))
  have g17_1 : fx ((((ft.set 2 (.int 0)).set 3 (.int 1)).set 11 (.int 0)).set 13 (.int 0)) 1 (.int 0) := (st_ne g12_1 (by decide))
  have g17_33 : fx ((((ft.set 2 (.int 0)).set 3 (.int 1)).set 11 (.int 0)).set 13 (.int 0)) 33 (.int 0) := (st_ne g12_33 (by decide))
  have g17_4 : fx ((((ft.set 2 (.int 0)).set 3 (.int 1)).set 11 (.int 0)).set 13 (.int 0)) 4 (.int 0) := (st_ne g12_4 (by decide))
  have g17_7 : fx ((((ft.set 2 (.int 0)).set 3 (.int 1)).set 11 (.int 0)).set 13 (.int 0)) 7 (.int 0) := (st_ne g12_7 (by decide))
  have g17_31 : fx ((((ft.set 2 (.int 0)).set 3 (.int 1)).set 11 (.int 0)).set 13 (.int 0)) 31 (.int 0) := (st_ne g12_31 (by decide))
  have g17_23 : fx ((((ft.set 2 (.int 0)).set 3 (.int 1)).set 11 (.int 0)).set 13 (.int 0)) 23 (.int 0) := (st_ne g12_23 (by decide))
  have g17_10 : fx ((((ft.set 2 (.int 0)).set 3 (.int 1)).set 11 (.int 0)).set 13 (.int 0)) 10 (.int 0) := (st_ne g12_10 (by decide))
  have hP : va_P (dC, dI) classes [(oT, .inr (13, ((((ft.set 2 (.int 0)).set 3 (.int 1)).set 11 (.int 0)).set 13 (.int 0))))] H := hP
  have hD : va_D A [(oT, .inr (13, ((((ft.set 2 (.int 0)).set 3 (.int 1)).set 11 (.int 0)).set 13 (.int 0))))] := hD
  refine lv_aload_n hx hb d_Tx_read_20 rfl (lv_at hl 0 rfl) ?_
  refine lv_iconst (v := 0) hx hb d_Tx_read_21 (by decide) ?_
  refine va_put (D := (dC, dI)) (ci := 13) (v := .int 0) (ty := .int) (C := R_Tx) (T := F_Tx) (N := 39) hx hb hts (fun w h => List.mem_cons_of_mem _ (in_Tx w h)) t_Tx t_Tx_ok n_Tx hown hK.1 hP hD hS 0 rfl rfl 21 (by decide) (hts _ (List.mem_cons_of_mem _ mw_1604)) (fun _ h9 => h9) rfl (by decide +kernel) rfl rfl (st_lt g17_21) d_Tx_read_22 (fun H locs hP hD hS => ?_)
  have g22_5 : fx (((((ft.set 2 (.int 0)).set 3 (.int 1)).set 11 (.int 0)).set 13 (.int 0)).set 21 (.int 0)) 5 (.int 0) := (st_ne g17_5 (by decide))
  have g22_6 : fx (((((ft.set 2 (.int 0)).set 3 (.int 1)).set 11 (.int 0)).set 13 (.int 0)).set 21 (.int 0)) 6 (.int 0) := (st_ne g17_6 (by decide))
  have g22_12 : fx (((((ft.set 2 (.int 0)).set 3 (.int 1)).set 11 (.int 0)).set 13 (.int 0)).set 21 (.int 0)) 12 (.int 0) := (st_ne g17_12 (by decide))
  have g22_35 : fx (((((ft.set 2 (.int 0)).set 3 (.int 1)).set 11 (.int 0)).set 13 (.int 0)).set 21 (.int 0)) 35 (.int 0) := (st_ne g17_35 (by decide))
  have g22_21 : fx (((((ft.set 2 (.int 0)).set 3 (.int 1)).set 11 (.int 0)).set 13 (.int 0)).set 21 (.int 0)) 21 (.int 0) := (st_eq g17_21)
  have g22_38 : fx (((((ft.set 2 (.int 0)).set 3 (.int 1)).set 11 (.int 0)).set 13 (.int 0)).set 21 (.int 0)) 38 (.int 0) := (st_ne g17_38 (by decide))
  have g22_32 : fx (((((ft.set 2 (.int 0)).set 3 (.int 1)).set 11 (.int 0)).set 13 (.int 0)).set 21 (.int 0)) 32 (.int 0) := (st_ne g17_32 (by decide))
  have g22_24 : fx (((((ft.set 2 (.int 0)).set 3 (.int 1)).set 11 (.int 0)).set 13 (.int 0)).set 21 (.int 0)) 24 (.int 0) := (st_ne g17_24 (by decide))
  have g22_30 : fx (((((ft.set 2 (.int 0)).set 3 (.int 1)).set 11 (.int 0)).set 13 (.int 0)).set 21 (.int 0)) 30 (.int 0) := (st_ne g17_30 (by decide))
  have g22_13 : fx (((((ft.set 2 (.int 0)).set 3 (.int 1)).set 11 (.int 0)).set 13 (.int 0)).set 21 (.int 0)) 13 (.int 0) := (st_ne g17_13 (by decide))
  have g22_3 : fx (((((ft.set 2 (.int 0)).set 3 (.int 1)).set 11 (.int 0)).set 13 (.int 0)).set 21 (.int 0)) 3 (.int 1) := (st_ne g17_3 (by decide))
  have g22_11 : fx (((((ft.set 2 (.int 0)).set 3 (.int 1)).set 11 (.int 0)).set 13 (.int 0)).set 21 (.int 0)) 11 (.int 0) := (st_ne g17_11 (by decide))
  have g22_2 : fx (((((ft.set 2 (.int 0)).set 3 (.int 1)).set 11 (.int 0)).set 13 (.int 0)).set 21 (.int 0)) 2 (.int 0) := (st_ne g17_2 (by decide))
  have g22_1 : fx (((((ft.set 2 (.int 0)).set 3 (.int 1)).set 11 (.int 0)).set 13 (.int 0)).set 21 (.int 0)) 1 (.int 0) := (st_ne g17_1 (by decide))
  have g22_33 : fx (((((ft.set 2 (.int 0)).set 3 (.int 1)).set 11 (.int 0)).set 13 (.int 0)).set 21 (.int 0)) 33 (.int 0) := (st_ne g17_33 (by decide))
  have g22_4 : fx (((((ft.set 2 (.int 0)).set 3 (.int 1)).set 11 (.int 0)).set 13 (.int 0)).set 21 (.int 0)) 4 (.int 0) := (st_ne g17_4 (by decide))
  have g22_7 : fx (((((ft.set 2 (.int 0)).set 3 (.int 1)).set 11 (.int 0)).set 13 (.int 0)).set 21 (.int 0)) 7 (.int 0) := (st_ne g17_7 (by decide))
  have g22_31 : fx (((((ft.set 2 (.int 0)).set 3 (.int 1)).set 11 (.int 0)).set 13 (.int 0)).set 21 (.int 0)) 31 (.int 0) := (st_ne g17_31 (by decide))
  have g22_23 : fx (((((ft.set 2 (.int 0)).set 3 (.int 1)).set 11 (.int 0)).set 13 (.int 0)).set 21 (.int 0)) 23 (.int 0) := (st_ne g17_23 (by decide))
  have g22_10 : fx (((((ft.set 2 (.int 0)).set 3 (.int 1)).set 11 (.int 0)).set 13 (.int 0)).set 21 (.int 0)) 10 (.int 0) := (st_ne g17_10 (by decide))
  have hP : va_P (dC, dI) classes [(oT, .inr (13, (((((ft.set 2 (.int 0)).set 3 (.int 1)).set 11 (.int 0)).set 13 (.int 0)).set 21 (.int 0))))] H := hP
  have hD : va_D A [(oT, .inr (13, (((((ft.set 2 (.int 0)).set 3 (.int 1)).set 11 (.int 0)).set 13 (.int 0)).set 21 (.int 0))))] := hD
  refine lv_aload_n hx hb d_Tx_read_25 rfl (lv_at hl 0 rfl) ?_
  refine lv_iconst (v := 0) hx hb d_Tx_read_26 (by decide) ?_
  refine va_put (D := (dC, dI)) (ci := 13) (v := .int 0) (ty := .int) (C := R_Tx) (T := F_Tx) (N := 39) hx hb hts (fun w h => List.mem_cons_of_mem _ (in_Tx w h)) t_Tx t_Tx_ok n_Tx hown hK.1 hP hD hS 0 rfl rfl 23 (by decide) (hts _ (List.mem_cons_of_mem _ mw_1607)) (fun _ h9 => h9) rfl (by decide +kernel) rfl rfl (st_lt g22_23) d_Tx_read_27 (fun H locs hP hD hS => ?_)
  have g27_5 : fx ((((((ft.set 2 (.int 0)).set 3 (.int 1)).set 11 (.int 0)).set 13 (.int 0)).set 21 (.int 0)).set 23 (.int 0)) 5 (.int 0) := (st_ne g22_5 (by decide))
  have g27_6 : fx ((((((ft.set 2 (.int 0)).set 3 (.int 1)).set 11 (.int 0)).set 13 (.int 0)).set 21 (.int 0)).set 23 (.int 0)) 6 (.int 0) := (st_ne g22_6 (by decide))
  have g27_12 : fx ((((((ft.set 2 (.int 0)).set 3 (.int 1)).set 11 (.int 0)).set 13 (.int 0)).set 21 (.int 0)).set 23 (.int 0)) 12 (.int 0) := (st_ne g22_12 (by decide))
  have g27_35 : fx ((((((ft.set 2 (.int 0)).set 3 (.int 1)).set 11 (.int 0)).set 13 (.int 0)).set 21 (.int 0)).set 23 (.int 0)) 35 (.int 0) := (st_ne g22_35 (by decide))
  have g27_21 : fx ((((((ft.set 2 (.int 0)).set 3 (.int 1)).set 11 (.int 0)).set 13 (.int 0)).set 21 (.int 0)).set 23 (.int 0)) 21 (.int 0) := (st_ne g22_21 (by decide))
  have g27_38 : fx ((((((ft.set 2 (.int 0)).set 3 (.int 1)).set 11 (.int 0)).set 13 (.int 0)).set 21 (.int 0)).set 23 (.int 0)) 38 (.int 0) := (st_ne g22_38 (by decide))
  have g27_32 : fx ((((((ft.set 2 (.int 0)).set 3 (.int 1)).set 11 (.int 0)).set 13 (.int 0)).set 21 (.int 0)).set 23 (.int 0)) 32 (.int 0) := (st_ne g22_32 (by decide))
  have g27_24 : fx ((((((ft.set 2 (.int 0)).set 3 (.int 1)).set 11 (.int 0)).set 13 (.int 0)).set 21 (.int 0)).set 23 (.int 0)) 24 (.int 0) := (st_ne g22_24 (by decide))
  have g27_30 : fx ((((((ft.set 2 (.int 0)).set 3 (.int 1)).set 11 (.int 0)).set 13 (.int 0)).set 21 (.int 0)).set 23 (.int 0)) 30 (.int 0) := (st_ne g22_30 (by decide))
  have g27_13 : fx ((((((ft.set 2 (.int 0)).set 3 (.int 1)).set 11 (.int 0)).set 13 (.int 0)).set 21 (.int 0)).set 23 (.int 0)) 13 (.int 0) := (st_ne g22_13 (by decide))
  have g27_3 : fx ((((((ft.set 2 (.int 0)).set 3 (.int 1)).set 11 (.int 0)).set 13 (.int 0)).set 21 (.int 0)).set 23 (.int 0)) 3 (.int 1) := (st_ne g22_3 (by decide))
  have g27_11 : fx ((((((ft.set 2 (.int 0)).set 3 (.int 1)).set 11 (.int 0)).set 13 (.int 0)).set 21 (.int 0)).set 23 (.int 0)) 11 (.int 0) := (st_ne g22_11 (by decide))
  have g27_2 : fx ((((((ft.set 2 (.int 0)).set 3 (.int 1)).set 11 (.int 0)).set 13 (.int 0)).set 21 (.int 0)).set 23 (.int 0)) 2 (.int 0) := (st_ne g22_2 (by decide))
  have g27_1 : fx ((((((ft.set 2 (.int 0)).set 3 (.int 1)).set 11 (.int 0)).set 13 (.int 0)).set 21 (.int 0)).set 23 (.int 0)) 1 (.int 0) := (st_ne g22_1 (by decide))
  have g27_33 : fx ((((((ft.set 2 (.int 0)).set 3 (.int 1)).set 11 (.int 0)).set 13 (.int 0)).set 21 (.int 0)).set 23 (.int 0)) 33 (.int 0) := (st_ne g22_33 (by decide))
  have g27_4 : fx ((((((ft.set 2 (.int 0)).set 3 (.int 1)).set 11 (.int 0)).set 13 (.int 0)).set 21 (.int 0)).set 23 (.int 0)) 4 (.int 0) := (st_ne g22_4 (by decide))
  have g27_7 : fx ((((((ft.set 2 (.int 0)).set 3 (.int 1)).set 11 (.int 0)).set 13 (.int 0)).set 21 (.int 0)).set 23 (.int 0)) 7 (.int 0) := (st_ne g22_7 (by decide))
  have g27_31 : fx ((((((ft.set 2 (.int 0)).set 3 (.int 1)).set 11 (.int 0)).set 13 (.int 0)).set 21 (.int 0)).set 23 (.int 0)) 31 (.int 0) := (st_ne g22_31 (by decide))
  have g27_23 : fx ((((((ft.set 2 (.int 0)).set 3 (.int 1)).set 11 (.int 0)).set 13 (.int 0)).set 21 (.int 0)).set 23 (.int 0)) 23 (.int 0) := (st_eq g22_23)
  have g27_10 : fx ((((((ft.set 2 (.int 0)).set 3 (.int 1)).set 11 (.int 0)).set 13 (.int 0)).set 21 (.int 0)).set 23 (.int 0)) 10 (.int 0) := (st_ne g22_10 (by decide))
  have hP : va_P (dC, dI) classes [(oT, .inr (13, ((((((ft.set 2 (.int 0)).set 3 (.int 1)).set 11 (.int 0)).set 13 (.int 0)).set 21 (.int 0)).set 23 (.int 0))))] H := hP
  have hD : va_D A [(oT, .inr (13, ((((((ft.set 2 (.int 0)).set 3 (.int 1)).set 11 (.int 0)).set 13 (.int 0)).set 21 (.int 0)).set 23 (.int 0))))] := hD
  refine lv_aload_n hx hb d_Tx_read_30 rfl (lv_at hl 0 rfl) ?_
  refine lv_iconst (v := 0) hx hb d_Tx_read_31 (by decide) ?_
  refine va_put (D := (dC, dI)) (ci := 13) (v := .int 0) (ty := .int) (C := R_Tx) (T := F_Tx) (N := 39) hx hb hts (fun w h => List.mem_cons_of_mem _ (in_Tx w h)) t_Tx t_Tx_ok n_Tx hown hK.1 hP hD hS 0 rfl rfl 24 (by decide) (hts _ (List.mem_cons_of_mem _ mw_1608)) (fun _ h9 => h9) rfl (by decide +kernel) rfl rfl (st_lt g27_24) d_Tx_read_32 (fun H locs hP hD hS => ?_)
  have g32_5 : fx (((((((ft.set 2 (.int 0)).set 3 (.int 1)).set 11 (.int 0)).set 13 (.int 0)).set 21 (.int 0)).set 23 (.int 0)).set 24 (.int 0)) 5 (.int 0) := (st_ne g27_5 (by decide))
  have g32_6 : fx (((((((ft.set 2 (.int 0)).set 3 (.int 1)).set 11 (.int 0)).set 13 (.int 0)).set 21 (.int 0)).set 23 (.int 0)).set 24 (.int 0)) 6 (.int 0) := (st_ne g27_6 (by decide))
  have g32_12 : fx (((((((ft.set 2 (.int 0)).set 3 (.int 1)).set 11 (.int 0)).set 13 (.int 0)).set 21 (.int 0)).set 23 (.int 0)).set 24 (.int 0)) 12 (.int 0) := (st_ne g27_12 (by decide))
  have g32_35 : fx (((((((ft.set 2 (.int 0)).set 3 (.int 1)).set 11 (.int 0)).set 13 (.int 0)).set 21 (.int 0)).set 23 (.int 0)).set 24 (.int 0)) 35 (.int 0) := (st_ne g27_35 (by decide))
  have g32_21 : fx (((((((ft.set 2 (.int 0)).set 3 (.int 1)).set 11 (.int 0)).set 13 (.int 0)).set 21 (.int 0)).set 23 (.int 0)).set 24 (.int 0)) 21 (.int 0) := (st_ne g27_21 (by decide))
  have g32_38 : fx (((((((ft.set 2 (.int 0)).set 3 (.int 1)).set 11 (.int 0)).set 13 (.int 0)).set 21 (.int 0)).set 23 (.int 0)).set 24 (.int 0)) 38 (.int 0) := (st_ne g27_38 (by decide))
  have g32_32 : fx (((((((ft.set 2 (.int 0)).set 3 (.int 1)).set 11 (.int 0)).set 13 (.int 0)).set 21 (.int 0)).set 23 (.int 0)).set 24 (.int 0)) 32 (.int 0) := (st_ne g27_32 (by decide))
  have g32_24 : fx (((((((ft.set 2 (.int 0)).set 3 (.int 1)).set 11 (.int 0)).set 13 (.int 0)).set 21 (.int 0)).set 23 (.int 0)).set 24 (.int 0)) 24 (.int 0) := (st_eq g27_24)
  have g32_30 : fx (((((((ft.set 2 (.int 0)).set 3 (.int 1)).set 11 (.int 0)).set 13 (.int 0)).set 21 (.int 0)).set 23 (.int 0)).set 24 (.int 0)) 30 (.int 0) := (st_ne g27_30 (by decide))
  have g32_13 : fx (((((((ft.set 2 (.int 0)).set 3 (.int 1)).set 11 (.int 0)).set 13 (.int 0)).set 21 (.int 0)).set 23 (.int 0)).set 24 (.int 0)) 13 (.int 0) := (st_ne g27_13 (by decide))
  have g32_3 : fx (((((((ft.set 2 (.int 0)).set 3 (.int 1)).set 11 (.int 0)).set 13 (.int 0)).set 21 (.int 0)).set 23 (.int 0)).set 24 (.int 0)) 3 (.int 1) := (st_ne g27_3 (by decide))
  have g32_11 : fx (((((((ft.set 2 (.int 0)).set 3 (.int 1)).set 11 (.int 0)).set 13 (.int 0)).set 21 (.int 0)).set 23 (.int 0)).set 24 (.int 0)) 11 (.int 0) := (st_ne g27_11 (by decide))
  have g32_2 : fx (((((((ft.set 2 (.int 0)).set 3 (.int 1)).set 11 (.int 0)).set 13 (.int 0)).set 21 (.int 0)).set 23 (.int 0)).set 24 (.int 0)) 2 (.int 0) := (st_ne g27_2 (by decide))
  have g32_1 : fx (((((((ft.set 2 (.int 0)).set 3 (.int 1)).set 11 (.int 0)).set 13 (.int 0)).set 21 (.int 0)).set 23 (.int 0)).set 24 (.int 0)) 1 (.int 0) := (st_ne g27_1 (by decide))
  have g32_33 : fx (((((((ft.set 2 (.int 0)).set 3 (.int 1)).set 11 (.int 0)).set 13 (.int 0)).set 21 (.int 0)).set 23 (.int 0)).set 24 (.int 0)) 33 (.int 0) := (st_ne g27_33 (by decide))
  have g32_4 : fx (((((((ft.set 2 (.int 0)).set 3 (.int 1)).set 11 (.int 0)).set 13 (.int 0)).set 21 (.int 0)).set 23 (.int 0)).set 24 (.int 0)) 4 (.int 0) := (st_ne g27_4 (by decide))
  have g32_7 : fx (((((((ft.set 2 (.int 0)).set 3 (.int 1)).set 11 (.int 0)).set 13 (.int 0)).set 21 (.int 0)).set 23 (.int 0)).set 24 (.int 0)) 7 (.int 0) := (st_ne g27_7 (by decide))
  have g32_31 : fx (((((((ft.set 2 (.int 0)).set 3 (.int 1)).set 11 (.int 0)).set 13 (.int 0)).set 21 (.int 0)).set 23 (.int 0)).set 24 (.int 0)) 31 (.int 0) := (st_ne g27_31 (by decide))
  have g32_23 : fx (((((((ft.set 2 (.int 0)).set 3 (.int 1)).set 11 (.int 0)).set 13 (.int 0)).set 21 (.int 0)).set 23 (.int 0)).set 24 (.int 0)) 23 (.int 0) := (st_ne g27_23 (by decide))
  have g32_10 : fx (((((((ft.set 2 (.int 0)).set 3 (.int 1)).set 11 (.int 0)).set 13 (.int 0)).set 21 (.int 0)).set 23 (.int 0)).set 24 (.int 0)) 10 (.int 0) := (st_ne g27_10 (by decide))
  have hP : va_P (dC, dI) classes [(oT, .inr (13, (((((((ft.set 2 (.int 0)).set 3 (.int 1)).set 11 (.int 0)).set 13 (.int 0)).set 21 (.int 0)).set 23 (.int 0)).set 24 (.int 0))))] H := hP
  have hD : va_D A [(oT, .inr (13, (((((((ft.set 2 (.int 0)).set 3 (.int 1)).set 11 (.int 0)).set 13 (.int 0)).set 21 (.int 0)).set 23 (.int 0)).set 24 (.int 0))))] := hD
  refine lv_aload_n hx hb d_Tx_read_35 rfl (lv_at hl 0 rfl) ?_
  refine lv_iconst (v := 0) hx hb d_Tx_read_36 (by decide) ?_
  refine va_put (D := (dC, dI)) (ci := 13) (v := .int 0) (ty := .int) (C := R_Tx) (T := F_Tx) (N := 39) hx hb hts (fun w h => List.mem_cons_of_mem _ (in_Tx w h)) t_Tx t_Tx_ok n_Tx hown hK.1 hP hD hS 0 rfl rfl 35 (by decide) (hts _ (List.mem_cons_of_mem _ mw_1623)) (fun _ h9 => h9) rfl (by decide +kernel) rfl rfl (st_lt g32_35) d_Tx_read_37 (fun H locs hP hD hS => ?_)
  have g37_5 : fx ((((((((ft.set 2 (.int 0)).set 3 (.int 1)).set 11 (.int 0)).set 13 (.int 0)).set 21 (.int 0)).set 23 (.int 0)).set 24 (.int 0)).set 35 (.int 0)) 5 (.int 0) := (st_ne g32_5 (by decide))
  have g37_6 : fx ((((((((ft.set 2 (.int 0)).set 3 (.int 1)).set 11 (.int 0)).set 13 (.int 0)).set 21 (.int 0)).set 23 (.int 0)).set 24 (.int 0)).set 35 (.int 0)) 6 (.int 0) := (st_ne g32_6 (by decide))
  have g37_12 : fx ((((((((ft.set 2 (.int 0)).set 3 (.int 1)).set 11 (.int 0)).set 13 (.int 0)).set 21 (.int 0)).set 23 (.int 0)).set 24 (.int 0)).set 35 (.int 0)) 12 (.int 0) := (st_ne g32_12 (by decide))
  have g37_35 : fx ((((((((ft.set 2 (.int 0)).set 3 (.int 1)).set 11 (.int 0)).set 13 (.int 0)).set 21 (.int 0)).set 23 (.int 0)).set 24 (.int 0)).set 35 (.int 0)) 35 (.int 0) := (st_eq g32_35)
  have g37_21 : fx ((((((((ft.set 2 (.int 0)).set 3 (.int 1)).set 11 (.int 0)).set 13 (.int 0)).set 21 (.int 0)).set 23 (.int 0)).set 24 (.int 0)).set 35 (.int 0)) 21 (.int 0) := (st_ne g32_21 (by decide))
  have g37_38 : fx ((((((((ft.set 2 (.int 0)).set 3 (.int 1)).set 11 (.int 0)).set 13 (.int 0)).set 21 (.int 0)).set 23 (.int 0)).set 24 (.int 0)).set 35 (.int 0)) 38 (.int 0) := (st_ne g32_38 (by decide))
  have g37_32 : fx ((((((((ft.set 2 (.int 0)).set 3 (.int 1)).set 11 (.int 0)).set 13 (.int 0)).set 21 (.int 0)).set 23 (.int 0)).set 24 (.int 0)).set 35 (.int 0)) 32 (.int 0) := (st_ne g32_32 (by decide))
  have g37_24 : fx ((((((((ft.set 2 (.int 0)).set 3 (.int 1)).set 11 (.int 0)).set 13 (.int 0)).set 21 (.int 0)).set 23 (.int 0)).set 24 (.int 0)).set 35 (.int 0)) 24 (.int 0) := (st_ne g32_24 (by decide))
  have g37_30 : fx ((((((((ft.set 2 (.int 0)).set 3 (.int 1)).set 11 (.int 0)).set 13 (.int 0)).set 21 (.int 0)).set 23 (.int 0)).set 24 (.int 0)).set 35 (.int 0)) 30 (.int 0) := (st_ne g32_30 (by decide))
  have g37_13 : fx ((((((((ft.set 2 (.int 0)).set 3 (.int 1)).set 11 (.int 0)).set 13 (.int 0)).set 21 (.int 0)).set 23 (.int 0)).set 24 (.int 0)).set 35 (.int 0)) 13 (.int 0) := (st_ne g32_13 (by decide))
  have g37_3 : fx ((((((((ft.set 2 (.int 0)).set 3 (.int 1)).set 11 (.int 0)).set 13 (.int 0)).set 21 (.int 0)).set 23 (.int 0)).set 24 (.int 0)).set 35 (.int 0)) 3 (.int 1) := (st_ne g32_3 (by decide))
  have g37_11 : fx ((((((((ft.set 2 (.int 0)).set 3 (.int 1)).set 11 (.int 0)).set 13 (.int 0)).set 21 (.int 0)).set 23 (.int 0)).set 24 (.int 0)).set 35 (.int 0)) 11 (.int 0) := (st_ne g32_11 (by decide))
  have g37_2 : fx ((((((((ft.set 2 (.int 0)).set 3 (.int 1)).set 11 (.int 0)).set 13 (.int 0)).set 21 (.int 0)).set 23 (.int 0)).set 24 (.int 0)).set 35 (.int 0)) 2 (.int 0) := (st_ne g32_2 (by decide))
  have g37_1 : fx ((((((((ft.set 2 (.int 0)).set 3 (.int 1)).set 11 (.int 0)).set 13 (.int 0)).set 21 (.int 0)).set 23 (.int 0)).set 24 (.int 0)).set 35 (.int 0)) 1 (.int 0) := (st_ne g32_1 (by decide))
  have g37_33 : fx ((((((((ft.set 2 (.int 0)).set 3 (.int 1)).set 11 (.int 0)).set 13 (.int 0)).set 21 (.int 0)).set 23 (.int 0)).set 24 (.int 0)).set 35 (.int 0)) 33 (.int 0) := (st_ne g32_33 (by decide))
  have g37_4 : fx ((((((((ft.set 2 (.int 0)).set 3 (.int 1)).set 11 (.int 0)).set 13 (.int 0)).set 21 (.int 0)).set 23 (.int 0)).set 24 (.int 0)).set 35 (.int 0)) 4 (.int 0) := (st_ne g32_4 (by decide))
  have g37_7 : fx ((((((((ft.set 2 (.int 0)).set 3 (.int 1)).set 11 (.int 0)).set 13 (.int 0)).set 21 (.int 0)).set 23 (.int 0)).set 24 (.int 0)).set 35 (.int 0)) 7 (.int 0) := (st_ne g32_7 (by decide))
  have g37_31 : fx ((((((((ft.set 2 (.int 0)).set 3 (.int 1)).set 11 (.int 0)).set 13 (.int 0)).set 21 (.int 0)).set 23 (.int 0)).set 24 (.int 0)).set 35 (.int 0)) 31 (.int 0) := (st_ne g32_31 (by decide))
  have g37_23 : fx ((((((((ft.set 2 (.int 0)).set 3 (.int 1)).set 11 (.int 0)).set 13 (.int 0)).set 21 (.int 0)).set 23 (.int 0)).set 24 (.int 0)).set 35 (.int 0)) 23 (.int 0) := (st_ne g32_23 (by decide))
  have g37_10 : fx ((((((((ft.set 2 (.int 0)).set 3 (.int 1)).set 11 (.int 0)).set 13 (.int 0)).set 21 (.int 0)).set 23 (.int 0)).set 24 (.int 0)).set 35 (.int 0)) 10 (.int 0) := (st_ne g32_10 (by decide))
  have hP : va_P (dC, dI) classes [(oT, .inr (13, ((((((((ft.set 2 (.int 0)).set 3 (.int 1)).set 11 (.int 0)).set 13 (.int 0)).set 21 (.int 0)).set 23 (.int 0)).set 24 (.int 0)).set 35 (.int 0))))] H := hP
  have hD : va_D A [(oT, .inr (13, ((((((((ft.set 2 (.int 0)).set 3 (.int 1)).set 11 (.int 0)).set 13 (.int 0)).set 21 (.int 0)).set 23 (.int 0)).set 24 (.int 0)).set 35 (.int 0))))] := hD
  refine lv_aload_n hx hb d_Tx_read_40 rfl (lv_at hl 0 rfl) ?_
  refine lv_iconst (v := 0) hx hb d_Tx_read_41 (by decide) ?_
  refine va_put (D := (dC, dI)) (ci := 13) (v := .int 0) (ty := .int) (C := R_Tx) (T := F_Tx) (N := 39) hx hb hts (fun w h => List.mem_cons_of_mem _ (in_Tx w h)) t_Tx t_Tx_ok n_Tx hown hK.1 hP hD hS 0 rfl rfl 38 (by decide) (hts _ (List.mem_cons_of_mem _ mw_1626)) (fun _ h9 => h9) rfl (by decide +kernel) rfl rfl (st_lt g37_38) d_Tx_read_42 (fun H locs hP hD hS => ?_)
  have g42_5 : fx (((((((((ft.set 2 (.int 0)).set 3 (.int 1)).set 11 (.int 0)).set 13 (.int 0)).set 21 (.int 0)).set 23 (.int 0)).set 24 (.int 0)).set 35 (.int 0)).set 38 (.int 0)) 5 (.int 0) := (st_ne g37_5 (by decide))
  have g42_6 : fx (((((((((ft.set 2 (.int 0)).set 3 (.int 1)).set 11 (.int 0)).set 13 (.int 0)).set 21 (.int 0)).set 23 (.int 0)).set 24 (.int 0)).set 35 (.int 0)).set 38 (.int 0)) 6 (.int 0) := (st_ne g37_6 (by decide))
  have g42_12 : fx (((((((((ft.set 2 (.int 0)).set 3 (.int 1)).set 11 (.int 0)).set 13 (.int 0)).set 21 (.int 0)).set 23 (.int 0)).set 24 (.int 0)).set 35 (.int 0)).set 38 (.int 0)) 12 (.int 0) := (st_ne g37_12 (by decide))
  have g42_35 : fx (((((((((ft.set 2 (.int 0)).set 3 (.int 1)).set 11 (.int 0)).set 13 (.int 0)).set 21 (.int 0)).set 23 (.int 0)).set 24 (.int 0)).set 35 (.int 0)).set 38 (.int 0)) 35 (.int 0) := (st_ne g37_35 (by decide))
  have g42_21 : fx (((((((((ft.set 2 (.int 0)).set 3 (.int 1)).set 11 (.int 0)).set 13 (.int 0)).set 21 (.int 0)).set 23 (.int 0)).set 24 (.int 0)).set 35 (.int 0)).set 38 (.int 0)) 21 (.int 0) := (st_ne g37_21 (by decide))
  have g42_38 : fx (((((((((ft.set 2 (.int 0)).set 3 (.int 1)).set 11 (.int 0)).set 13 (.int 0)).set 21 (.int 0)).set 23 (.int 0)).set 24 (.int 0)).set 35 (.int 0)).set 38 (.int 0)) 38 (.int 0) := (st_eq g37_38)
  have g42_32 : fx (((((((((ft.set 2 (.int 0)).set 3 (.int 1)).set 11 (.int 0)).set 13 (.int 0)).set 21 (.int 0)).set 23 (.int 0)).set 24 (.int 0)).set 35 (.int 0)).set 38 (.int 0)) 32 (.int 0) := (st_ne g37_32 (by decide))
  have g42_24 : fx (((((((((ft.set 2 (.int 0)).set 3 (.int 1)).set 11 (.int 0)).set 13 (.int 0)).set 21 (.int 0)).set 23 (.int 0)).set 24 (.int 0)).set 35 (.int 0)).set 38 (.int 0)) 24 (.int 0) := (st_ne g37_24 (by decide))
  have g42_30 : fx (((((((((ft.set 2 (.int 0)).set 3 (.int 1)).set 11 (.int 0)).set 13 (.int 0)).set 21 (.int 0)).set 23 (.int 0)).set 24 (.int 0)).set 35 (.int 0)).set 38 (.int 0)) 30 (.int 0) := (st_ne g37_30 (by decide))
  have g42_13 : fx (((((((((ft.set 2 (.int 0)).set 3 (.int 1)).set 11 (.int 0)).set 13 (.int 0)).set 21 (.int 0)).set 23 (.int 0)).set 24 (.int 0)).set 35 (.int 0)).set 38 (.int 0)) 13 (.int 0) := (st_ne g37_13 (by decide))
  have g42_3 : fx (((((((((ft.set 2 (.int 0)).set 3 (.int 1)).set 11 (.int 0)).set 13 (.int 0)).set 21 (.int 0)).set 23 (.int 0)).set 24 (.int 0)).set 35 (.int 0)).set 38 (.int 0)) 3 (.int 1) := (st_ne g37_3 (by decide))
  have g42_11 : fx (((((((((ft.set 2 (.int 0)).set 3 (.int 1)).set 11 (.int 0)).set 13 (.int 0)).set 21 (.int 0)).set 23 (.int 0)).set 24 (.int 0)).set 35 (.int 0)).set 38 (.int 0)) 11 (.int 0) := (st_ne g37_11 (by decide))
  have g42_2 : fx (((((((((ft.set 2 (.int 0)).set 3 (.int 1)).set 11 (.int 0)).set 13 (.int 0)).set 21 (.int 0)).set 23 (.int 0)).set 24 (.int 0)).set 35 (.int 0)).set 38 (.int 0)) 2 (.int 0) := (st_ne g37_2 (by decide))
  have g42_1 : fx (((((((((ft.set 2 (.int 0)).set 3 (.int 1)).set 11 (.int 0)).set 13 (.int 0)).set 21 (.int 0)).set 23 (.int 0)).set 24 (.int 0)).set 35 (.int 0)).set 38 (.int 0)) 1 (.int 0) := (st_ne g37_1 (by decide))
  have g42_33 : fx (((((((((ft.set 2 (.int 0)).set 3 (.int 1)).set 11 (.int 0)).set 13 (.int 0)).set 21 (.int 0)).set 23 (.int 0)).set 24 (.int 0)).set 35 (.int 0)).set 38 (.int 0)) 33 (.int 0) := (st_ne g37_33 (by decide))
  have g42_4 : fx (((((((((ft.set 2 (.int 0)).set 3 (.int 1)).set 11 (.int 0)).set 13 (.int 0)).set 21 (.int 0)).set 23 (.int 0)).set 24 (.int 0)).set 35 (.int 0)).set 38 (.int 0)) 4 (.int 0) := (st_ne g37_4 (by decide))
  have g42_7 : fx (((((((((ft.set 2 (.int 0)).set 3 (.int 1)).set 11 (.int 0)).set 13 (.int 0)).set 21 (.int 0)).set 23 (.int 0)).set 24 (.int 0)).set 35 (.int 0)).set 38 (.int 0)) 7 (.int 0) := (st_ne g37_7 (by decide))
  have g42_31 : fx (((((((((ft.set 2 (.int 0)).set 3 (.int 1)).set 11 (.int 0)).set 13 (.int 0)).set 21 (.int 0)).set 23 (.int 0)).set 24 (.int 0)).set 35 (.int 0)).set 38 (.int 0)) 31 (.int 0) := (st_ne g37_31 (by decide))
  have g42_23 : fx (((((((((ft.set 2 (.int 0)).set 3 (.int 1)).set 11 (.int 0)).set 13 (.int 0)).set 21 (.int 0)).set 23 (.int 0)).set 24 (.int 0)).set 35 (.int 0)).set 38 (.int 0)) 23 (.int 0) := (st_ne g37_23 (by decide))
  have g42_10 : fx (((((((((ft.set 2 (.int 0)).set 3 (.int 1)).set 11 (.int 0)).set 13 (.int 0)).set 21 (.int 0)).set 23 (.int 0)).set 24 (.int 0)).set 35 (.int 0)).set 38 (.int 0)) 10 (.int 0) := (st_ne g37_10 (by decide))
  have hP : va_P (dC, dI) classes [(oT, .inr (13, (((((((((ft.set 2 (.int 0)).set 3 (.int 1)).set 11 (.int 0)).set 13 (.int 0)).set 21 (.int 0)).set 23 (.int 0)).set 24 (.int 0)).set 35 (.int 0)).set 38 (.int 0))))] H := hP
  have hD : va_D A [(oT, .inr (13, (((((((((ft.set 2 (.int 0)).set 3 (.int 1)).set 11 (.int 0)).set 13 (.int 0)).set 21 (.int 0)).set 23 (.int 0)).set 24 (.int 0)).set 35 (.int 0)).set 38 (.int 0))))] := hD
  refine lv_aload_n hx hb d_Tx_read_45 rfl (lv_at hl 0 rfl) ?_
  refine lv_iconst (v := (-1)) hx hb d_Tx_read_46 (by decide) ?_
  refine va_put (D := (dC, dI)) (ci := 13) (v := .int (-1)) (ty := .int) (C := R_Tx) (T := F_Tx) (N := 39) hx hb hts (fun w h => List.mem_cons_of_mem _ (in_Tx w h)) t_Tx t_Tx_ok n_Tx hown hK.1 hP hD hS 0 rfl rfl 10 (by decide) (hts _ (List.mem_cons_of_mem _ mw_1589)) (fun _ h9 => h9) rfl (by decide +kernel) rfl rfl (st_lt g42_10) d_Tx_read_47 (fun H locs hP hD hS => ?_)
  have g47_5 : fx ((((((((((ft.set 2 (.int 0)).set 3 (.int 1)).set 11 (.int 0)).set 13 (.int 0)).set 21 (.int 0)).set 23 (.int 0)).set 24 (.int 0)).set 35 (.int 0)).set 38 (.int 0)).set 10 (.int (-1))) 5 (.int 0) := (st_ne g42_5 (by decide))
  have g47_6 : fx ((((((((((ft.set 2 (.int 0)).set 3 (.int 1)).set 11 (.int 0)).set 13 (.int 0)).set 21 (.int 0)).set 23 (.int 0)).set 24 (.int 0)).set 35 (.int 0)).set 38 (.int 0)).set 10 (.int (-1))) 6 (.int 0) := (st_ne g42_6 (by decide))
  have g47_12 : fx ((((((((((ft.set 2 (.int 0)).set 3 (.int 1)).set 11 (.int 0)).set 13 (.int 0)).set 21 (.int 0)).set 23 (.int 0)).set 24 (.int 0)).set 35 (.int 0)).set 38 (.int 0)).set 10 (.int (-1))) 12 (.int 0) := (st_ne g42_12 (by decide))
  have g47_35 : fx ((((((((((ft.set 2 (.int 0)).set 3 (.int 1)).set 11 (.int 0)).set 13 (.int 0)).set 21 (.int 0)).set 23 (.int 0)).set 24 (.int 0)).set 35 (.int 0)).set 38 (.int 0)).set 10 (.int (-1))) 35 (.int 0) := (st_ne g42_35 (by decide))
  have g47_21 : fx ((((((((((ft.set 2 (.int 0)).set 3 (.int 1)).set 11 (.int 0)).set 13 (.int 0)).set 21 (.int 0)).set 23 (.int 0)).set 24 (.int 0)).set 35 (.int 0)).set 38 (.int 0)).set 10 (.int (-1))) 21 (.int 0) := (st_ne g42_21 (by decide))
  have g47_38 : fx ((((((((((ft.set 2 (.int 0)).set 3 (.int 1)).set 11 (.int 0)).set 13 (.int 0)).set 21 (.int 0)).set 23 (.int 0)).set 24 (.int 0)).set 35 (.int 0)).set 38 (.int 0)).set 10 (.int (-1))) 38 (.int 0) := (st_ne g42_38 (by decide))
  have g47_32 : fx ((((((((((ft.set 2 (.int 0)).set 3 (.int 1)).set 11 (.int 0)).set 13 (.int 0)).set 21 (.int 0)).set 23 (.int 0)).set 24 (.int 0)).set 35 (.int 0)).set 38 (.int 0)).set 10 (.int (-1))) 32 (.int 0) := (st_ne g42_32 (by decide))
  have g47_24 : fx ((((((((((ft.set 2 (.int 0)).set 3 (.int 1)).set 11 (.int 0)).set 13 (.int 0)).set 21 (.int 0)).set 23 (.int 0)).set 24 (.int 0)).set 35 (.int 0)).set 38 (.int 0)).set 10 (.int (-1))) 24 (.int 0) := (st_ne g42_24 (by decide))
  have g47_30 : fx ((((((((((ft.set 2 (.int 0)).set 3 (.int 1)).set 11 (.int 0)).set 13 (.int 0)).set 21 (.int 0)).set 23 (.int 0)).set 24 (.int 0)).set 35 (.int 0)).set 38 (.int 0)).set 10 (.int (-1))) 30 (.int 0) := (st_ne g42_30 (by decide))
  have g47_13 : fx ((((((((((ft.set 2 (.int 0)).set 3 (.int 1)).set 11 (.int 0)).set 13 (.int 0)).set 21 (.int 0)).set 23 (.int 0)).set 24 (.int 0)).set 35 (.int 0)).set 38 (.int 0)).set 10 (.int (-1))) 13 (.int 0) := (st_ne g42_13 (by decide))
  have g47_3 : fx ((((((((((ft.set 2 (.int 0)).set 3 (.int 1)).set 11 (.int 0)).set 13 (.int 0)).set 21 (.int 0)).set 23 (.int 0)).set 24 (.int 0)).set 35 (.int 0)).set 38 (.int 0)).set 10 (.int (-1))) 3 (.int 1) := (st_ne g42_3 (by decide))
  have g47_11 : fx ((((((((((ft.set 2 (.int 0)).set 3 (.int 1)).set 11 (.int 0)).set 13 (.int 0)).set 21 (.int 0)).set 23 (.int 0)).set 24 (.int 0)).set 35 (.int 0)).set 38 (.int 0)).set 10 (.int (-1))) 11 (.int 0) := (st_ne g42_11 (by decide))
  have g47_2 : fx ((((((((((ft.set 2 (.int 0)).set 3 (.int 1)).set 11 (.int 0)).set 13 (.int 0)).set 21 (.int 0)).set 23 (.int 0)).set 24 (.int 0)).set 35 (.int 0)).set 38 (.int 0)).set 10 (.int (-1))) 2 (.int 0) := (st_ne g42_2 (by decide))
  have g47_1 : fx ((((((((((ft.set 2 (.int 0)).set 3 (.int 1)).set 11 (.int 0)).set 13 (.int 0)).set 21 (.int 0)).set 23 (.int 0)).set 24 (.int 0)).set 35 (.int 0)).set 38 (.int 0)).set 10 (.int (-1))) 1 (.int 0) := (st_ne g42_1 (by decide))
  have g47_33 : fx ((((((((((ft.set 2 (.int 0)).set 3 (.int 1)).set 11 (.int 0)).set 13 (.int 0)).set 21 (.int 0)).set 23 (.int 0)).set 24 (.int 0)).set 35 (.int 0)).set 38 (.int 0)).set 10 (.int (-1))) 33 (.int 0) := (st_ne g42_33 (by decide))
  have g47_4 : fx ((((((((((ft.set 2 (.int 0)).set 3 (.int 1)).set 11 (.int 0)).set 13 (.int 0)).set 21 (.int 0)).set 23 (.int 0)).set 24 (.int 0)).set 35 (.int 0)).set 38 (.int 0)).set 10 (.int (-1))) 4 (.int 0) := (st_ne g42_4 (by decide))
  have g47_7 : fx ((((((((((ft.set 2 (.int 0)).set 3 (.int 1)).set 11 (.int 0)).set 13 (.int 0)).set 21 (.int 0)).set 23 (.int 0)).set 24 (.int 0)).set 35 (.int 0)).set 38 (.int 0)).set 10 (.int (-1))) 7 (.int 0) := (st_ne g42_7 (by decide))
  have g47_31 : fx ((((((((((ft.set 2 (.int 0)).set 3 (.int 1)).set 11 (.int 0)).set 13 (.int 0)).set 21 (.int 0)).set 23 (.int 0)).set 24 (.int 0)).set 35 (.int 0)).set 38 (.int 0)).set 10 (.int (-1))) 31 (.int 0) := (st_ne g42_31 (by decide))
  have g47_23 : fx ((((((((((ft.set 2 (.int 0)).set 3 (.int 1)).set 11 (.int 0)).set 13 (.int 0)).set 21 (.int 0)).set 23 (.int 0)).set 24 (.int 0)).set 35 (.int 0)).set 38 (.int 0)).set 10 (.int (-1))) 23 (.int 0) := (st_ne g42_23 (by decide))
  have g47_10 : fx ((((((((((ft.set 2 (.int 0)).set 3 (.int 1)).set 11 (.int 0)).set 13 (.int 0)).set 21 (.int 0)).set 23 (.int 0)).set 24 (.int 0)).set 35 (.int 0)).set 38 (.int 0)).set 10 (.int (-1))) 10 (.int (-1)) := (st_eq g42_10)
  have hP : va_P (dC, dI) classes [(oT, .inr (13, ((((((((((ft.set 2 (.int 0)).set 3 (.int 1)).set 11 (.int 0)).set 13 (.int 0)).set 21 (.int 0)).set 23 (.int 0)).set 24 (.int 0)).set 35 (.int 0)).set 38 (.int 0)).set 10 (.int (-1)))))] H := hP
  have hD : va_D A [(oT, .inr (13, ((((((((((ft.set 2 (.int 0)).set 3 (.int 1)).set 11 (.int 0)).set 13 (.int 0)).set 21 (.int 0)).set 23 (.int 0)).set 24 (.int 0)).set 35 (.int 0)).set 38 (.int 0)).set 10 (.int (-1)))))] := hD
  refine lv_aload_n hx hb d_Tx_read_50 rfl (lv_at hl 0 rfl) ?_
  have hPc := hP.sub (ws' := [(oT, .inr (13, ((((((((((ft.set 2 (.int 0)).set 3 (.int 1)).set 11 (.int 0)).set 13 (.int 0)).set 21 (.int 0)).set 23 (.int 0)).set 24 (.int 0)).set 35 (.int 0)).set 38 (.int 0)).set 10 (.int (-1)))))]) [0] rfl
  have hDc := hD.sub (ws' := [(oT, .inr (13, ((((((((((ft.set 2 (.int 0)).set 3 (.int 1)).set 11 (.int 0)).set 13 (.int 0)).set 21 (.int 0)).set 23 (.int 0)).set 24 (.int 0)).set 35 (.int 0)).set 38 (.int 0)).set 10 (.int (-1)))))]) [0] (by decide) rfl
  have hFc := va_free (wc := [(oT, .inr (13, ((((((((((ft.set 2 (.int 0)).set 3 (.int 1)).set 11 (.int 0)).set 13 (.int 0)).set 21 (.int 0)).set 23 (.int 0)).set 24 (.int 0)).set 35 (.int 0)).set 38 (.int 0)).set 10 (.int (-1)))))]) hD hS hA [0] rfl
  refine va_calli (va_runV (C := R_Tx) (As := []) (rest := []) ⟨hx, hb, hml, hown, hts⟩ (c_Tx_program l dC dI cI cB cZ cJ oT (((((((((((ft.set 2 (.int 0)).set 3 (.int 1)).set 11 (.int 0)).set 13 (.int 0)).set 21 (.int 0)).set 23 (.int 0)).set 24 (.int 0)).set 35 (.int 0)).set 38 (.int 0)).set 10 (.int (-1)))) g47_1 g47_2 g47_3 g47_4 g47_5 g47_6 g47_7 g47_10 g47_12 g47_13 g47_23 g47_24 g47_30 g47_31 g47_32 g47_33 g47_38 H.size) (cwV 0 hts (tb_V mw_2178 mw_2180 sl_110 mw_19 mw_2181) rfl rfl rfl ⟨rfl, by decide +kernel, by decide +kernel, by decide +kernel⟩ ⟨(Nat.le_of_ble_eq_true rfl), (Nat.le_of_ble_eq_true rfl)⟩) ⟨pw_blind, va_recv (q := (R_Tx, F_Tx, 39)) hK.1 hP (ci := 13) (q0 := 0) rfl rfl, pw_pre hPc hK hDc⟩ rfl rfl hl.1 rfl (lv_room (Nat.le_of_ble_eq_true rfl)) d_Tx_read_51 ⟨(Nat.le_of_ble_eq_true rfl), (Nat.le_of_ble_eq_true rfl)⟩) hS (fun q _ h => hFc q h) hFc (fun r u t H locs ht hvm hw hB hz1 hk1 hS => ?_)
  obtain ⟨s51_11_oT, k51_11_oT_1, k51_11_oT_2, k51_11_oT_3, k51_11_oT_4, k51_11_oT_5, k51_11_oT_6, k51_11_oT_7, k51_11_oT_10, k51_11_oT_12, k51_11_oT_13, k51_11_oT_23, k51_11_oT_24, k51_11_oT_30, k51_11_oT_31, k51_11_oT_32, k51_11_oT_33, k51_11_oT_38, hP1, hD1⟩ := hB
  rw [ht] at hP1
  obtain ⟨hP, hD⟩ := va_join (wr := []) (w1 := [(oT, .inr (13, s51_11_oT))]) hP hD [0] [] rfl rfl (by decide) (by decide) hk1 hFc hP1 hD1
  have hP : va_P (dC, dI) classes [(oT, .inr (13, s51_11_oT))] H := hP
  have hD : va_D A [(oT, .inr (13, s51_11_oT))] := hD
  obtain rfl : r = 1 := hw
  refine lv_if_eq (tgt := 68) hx hb d_Tx_read_54 (by decide) (fun h => absurd h (by decide)) (fun _ => ?_)
  refine lv_aload_n hx hb d_Tx_read_57 rfl (lv_at hl 0 rfl) ?_
  have hPc := hP.sub (ws' := [(oT, .inr (13, s51_11_oT))]) [0] rfl
  have hDc := hD.sub (ws' := [(oT, .inr (13, s51_11_oT))]) [0] (by decide) rfl
  have hFc := va_free (wc := [(oT, .inr (13, s51_11_oT))]) hD hS hA [0] rfl
  refine va_calli (va_runV (C := R_Tx) (As := []) (rest := []) ⟨hx, hb, hml, hown, hts⟩ (c_Tx_isSmall l dC dI cI cB cZ cJ oT s51_11_oT k51_11_oT_1 k51_11_oT_10 k51_11_oT_12 k51_11_oT_13 k51_11_oT_23 k51_11_oT_24 k51_11_oT_30 k51_11_oT_31 k51_11_oT_32 k51_11_oT_33 k51_11_oT_38 H.size) (cwV 0 hts (tb_V mw_2331 mw_2333 sl_138 mw_19 mw_2334) rfl rfl rfl ⟨rfl, by decide +kernel, by decide +kernel, by decide +kernel⟩ ⟨(Nat.le_of_ble_eq_true rfl), (Nat.le_of_ble_eq_true rfl)⟩) ⟨pw_blind, va_recv (q := (R_Tx, F_Tx, 39)) hK.1 hP (ci := 13) (q0 := 0) rfl rfl, pw_pre hPc hK hDc⟩ rfl rfl hl.1 rfl (lv_room (Nat.le_of_ble_eq_true rfl)) d_Tx_read_58 ⟨(Nat.le_of_ble_eq_true rfl), (Nat.le_of_ble_eq_true rfl)⟩) hS (fun q _ h => hFc q h) hFc (fun r u t H locs ht hvm hw hB hz1 hk1 hS => ?_)
  obtain ⟨s58_12_oT, k58_12_oT_1, k58_12_oT_10, k58_12_oT_12, k58_12_oT_13, k58_12_oT_23, k58_12_oT_24, k58_12_oT_30, k58_12_oT_31, k58_12_oT_32, k58_12_oT_33, k58_12_oT_38, hP1, hD1⟩ := hB
  rw [ht] at hP1
  obtain ⟨hP, hD⟩ := va_join (wr := []) (w1 := [(oT, .inr (13, s58_12_oT))]) hP hD [0] [] rfl rfl (by decide) (by decide) hk1 hFc hP1 hD1
  have hP : va_P (dC, dI) classes [(oT, .inr (13, s58_12_oT))] H := hP
  have hD : va_D A [(oT, .inr (13, s58_12_oT))] := hD
  obtain rfl : r = 1 := hw
  refine lv_if_eq (tgt := 68) hx hb d_Tx_read_61 (by decide) (fun h => absurd h (by decide)) (fun _ => ?_)
  refine lv_iconst (v := 1) hx hb d_Tx_read_64 (by decide) ?_
  refine lv_goto (tgt := 69) hx hb d_Tx_read_65 (by decide) ?_
  refine lv_istore_n hx hb d_Tx_read_69 rfl hl (by decide) rfl (fun ls hl => ?_)
  have hl : lv_has ls 2 [(1, .int 1), (0, .ref oT)] := hl
  refine lv_aload_n hx hb d_Tx_read_70 rfl (lv_at hl 1 rfl) ?_
  refine lv_iconst (v := 0) hx hb d_Tx_read_71 (by decide) ?_
  refine va_put (D := (dC, dI)) (ci := 13) (v := .int 0) (ty := .int) (C := R_Tx) (T := F_Tx) (N := 39) hx hb hts (fun w h => List.mem_cons_of_mem _ (in_Tx w h)) t_Tx t_Tx_ok n_Tx hown hK.1 hP hD hS 0 rfl rfl 1 (by decide) (hts _ (List.mem_cons_of_mem _ mw_1580)) (fun _ h9 => h9) rfl (by decide +kernel) rfl rfl (st_lt k58_12_oT_1) d_Tx_read_72 (fun H locs hP hD hS => ?_)
  have g72_1 : fx (s58_12_oT.set 1 (.int 0)) 1 (.int 0) := (st_eq k58_12_oT_1)
  have g72_10 : fx (s58_12_oT.set 1 (.int 0)) 10 (.int (-1)) := (st_ne k58_12_oT_10 (by decide))
  have g72_12 : fx (s58_12_oT.set 1 (.int 0)) 12 (.int 0) := (st_ne k58_12_oT_12 (by decide))
  have g72_13 : fx (s58_12_oT.set 1 (.int 0)) 13 (.int 0) := (st_ne k58_12_oT_13 (by decide))
  have g72_23 : fx (s58_12_oT.set 1 (.int 0)) 23 (.int 0) := (st_ne k58_12_oT_23 (by decide))
  have g72_24 : fx (s58_12_oT.set 1 (.int 0)) 24 (.int 0) := (st_ne k58_12_oT_24 (by decide))
  have g72_30 : fx (s58_12_oT.set 1 (.int 0)) 30 (.int 0) := (st_ne k58_12_oT_30 (by decide))
  have g72_31 : fx (s58_12_oT.set 1 (.int 0)) 31 (.int 0) := (st_ne k58_12_oT_31 (by decide))
  have g72_32 : fx (s58_12_oT.set 1 (.int 0)) 32 (.int 0) := (st_ne k58_12_oT_32 (by decide))
  have g72_33 : fx (s58_12_oT.set 1 (.int 0)) 33 (.int 0) := (st_ne k58_12_oT_33 (by decide))
  have g72_38 : fx (s58_12_oT.set 1 (.int 0)) 38 (.int 0) := (st_ne k58_12_oT_38 (by decide))
  have hP : va_P (dC, dI) classes [(oT, .inr (13, (s58_12_oT.set 1 (.int 0))))] H := hP
  have hD : va_D A [(oT, .inr (13, (s58_12_oT.set 1 (.int 0))))] := hD
  refine lv_iload_n hx hb d_Tx_read_75 rfl (lv_at hl 0 rfl) ?_
  refine lv_if_ne (tgt := 86) hx hb d_Tx_read_76 (by decide) (fun _ => ?_) (fun h => absurd h (by decide))
  refine lv_aload_n hx hb d_Tx_read_86 rfl (lv_at hl 1 rfl) ?_
  refine lv_iconst (v := 1) hx hb d_Tx_read_87 (by decide) ?_
  refine lv_aload_n hx hb d_Tx_read_88 rfl (lv_at hl 1 rfl) ?_
  refine va_get (D := (dC, dI)) (ci := 13) (v := .int 0) (C := R_Tx) (T := F_Tx) (N := 39) hx hb hts (fun w h => List.mem_cons_of_mem _ (in_Tx w h)) hown hK.1 hP 0 rfl rfl 12 (by decide) (hts _ (List.mem_cons_of_mem _ mw_1591)) (fun _ h9 => h9) g72_12 d_Tx_read_89 ?_
  refine lv_isub hx hb d_Tx_read_92 ?_
  refine lv_topi (fun x0 e0 => ?_)
  obtain rfl : x0 = 1 := e0.trans (by decide)
  refine va_put (D := (dC, dI)) (ci := 13) (v := .int 1) (ty := .int) (C := R_Tx) (T := F_Tx) (N := 39) hx hb hts (fun w h => List.mem_cons_of_mem _ (in_Tx w h)) t_Tx t_Tx_ok n_Tx hown hK.1 hP hD hS 0 rfl rfl 12 (by decide) (hts _ (List.mem_cons_of_mem _ mw_1591)) (fun _ h9 => h9) rfl (by decide +kernel) rfl rfl (st_lt g72_12) d_Tx_read_93 (fun H locs hP hD hS => ?_)
  have g93_1 : fx ((s58_12_oT.set 1 (.int 0)).set 12 (.int 1)) 1 (.int 0) := (st_ne g72_1 (by decide))
  have g93_10 : fx ((s58_12_oT.set 1 (.int 0)).set 12 (.int 1)) 10 (.int (-1)) := (st_ne g72_10 (by decide))
  have g93_12 : fx ((s58_12_oT.set 1 (.int 0)).set 12 (.int 1)) 12 (.int 1) := (st_eq g72_12)
  have g93_13 : fx ((s58_12_oT.set 1 (.int 0)).set 12 (.int 1)) 13 (.int 0) := (st_ne g72_13 (by decide))
  have g93_23 : fx ((s58_12_oT.set 1 (.int 0)).set 12 (.int 1)) 23 (.int 0) := (st_ne g72_23 (by decide))
  have g93_24 : fx ((s58_12_oT.set 1 (.int 0)).set 12 (.int 1)) 24 (.int 0) := (st_ne g72_24 (by decide))
  have g93_30 : fx ((s58_12_oT.set 1 (.int 0)).set 12 (.int 1)) 30 (.int 0) := (st_ne g72_30 (by decide))
  have g93_31 : fx ((s58_12_oT.set 1 (.int 0)).set 12 (.int 1)) 31 (.int 0) := (st_ne g72_31 (by decide))
  have g93_32 : fx ((s58_12_oT.set 1 (.int 0)).set 12 (.int 1)) 32 (.int 0) := (st_ne g72_32 (by decide))
  have g93_33 : fx ((s58_12_oT.set 1 (.int 0)).set 12 (.int 1)) 33 (.int 0) := (st_ne g72_33 (by decide))
  have g93_38 : fx ((s58_12_oT.set 1 (.int 0)).set 12 (.int 1)) 38 (.int 0) := (st_ne g72_38 (by decide))
  have hP : va_P (dC, dI) classes [(oT, .inr (13, ((s58_12_oT.set 1 (.int 0)).set 12 (.int 1))))] H := hP
  have hD : va_D A [(oT, .inr (13, ((s58_12_oT.set 1 (.int 0)).set 12 (.int 1))))] := hD
  refine lv_aload_n hx hb d_Tx_read_96 rfl (lv_at hl 1 rfl) ?_
  refine lv_aload_n hx hb d_Tx_read_97 rfl (lv_at hl 1 rfl) ?_
  refine va_get (D := (dC, dI)) (ci := 13) (v := .int 0) (C := R_Tx) (T := F_Tx) (N := 39) hx hb hts (fun w h => List.mem_cons_of_mem _ (in_Tx w h)) hown hK.1 hP 0 rfl rfl 13 (by decide) (hts _ (List.mem_cons_of_mem _ mw_1593)) (fun _ h9 => h9) g93_13 d_Tx_read_98 ?_
  refine va_put (D := (dC, dI)) (ci := 13) (v := .int 0) (ty := .int) (C := R_Tx) (T := F_Tx) (N := 39) hx hb hts (fun w h => List.mem_cons_of_mem _ (in_Tx w h)) t_Tx t_Tx_ok n_Tx hown hK.1 hP hD hS 0 rfl rfl 30 (by decide) (hts _ (List.mem_cons_of_mem _ mw_1616)) (fun _ h9 => h9) rfl (by decide +kernel) rfl rfl (st_lt g93_30) d_Tx_read_101 (fun H locs hP hD hS => ?_)
  have g101_1 : fx (((s58_12_oT.set 1 (.int 0)).set 12 (.int 1)).set 30 (.int 0)) 1 (.int 0) := (st_ne g93_1 (by decide))
  have g101_10 : fx (((s58_12_oT.set 1 (.int 0)).set 12 (.int 1)).set 30 (.int 0)) 10 (.int (-1)) := (st_ne g93_10 (by decide))
  have g101_12 : fx (((s58_12_oT.set 1 (.int 0)).set 12 (.int 1)).set 30 (.int 0)) 12 (.int 1) := (st_ne g93_12 (by decide))
  have g101_13 : fx (((s58_12_oT.set 1 (.int 0)).set 12 (.int 1)).set 30 (.int 0)) 13 (.int 0) := (st_ne g93_13 (by decide))
  have g101_23 : fx (((s58_12_oT.set 1 (.int 0)).set 12 (.int 1)).set 30 (.int 0)) 23 (.int 0) := (st_ne g93_23 (by decide))
  have g101_24 : fx (((s58_12_oT.set 1 (.int 0)).set 12 (.int 1)).set 30 (.int 0)) 24 (.int 0) := (st_ne g93_24 (by decide))
  have g101_30 : fx (((s58_12_oT.set 1 (.int 0)).set 12 (.int 1)).set 30 (.int 0)) 30 (.int 0) := (st_eq g93_30)
  have g101_31 : fx (((s58_12_oT.set 1 (.int 0)).set 12 (.int 1)).set 30 (.int 0)) 31 (.int 0) := (st_ne g93_31 (by decide))
  have g101_32 : fx (((s58_12_oT.set 1 (.int 0)).set 12 (.int 1)).set 30 (.int 0)) 32 (.int 0) := (st_ne g93_32 (by decide))
  have g101_33 : fx (((s58_12_oT.set 1 (.int 0)).set 12 (.int 1)).set 30 (.int 0)) 33 (.int 0) := (st_ne g93_33 (by decide))
  have g101_38 : fx (((s58_12_oT.set 1 (.int 0)).set 12 (.int 1)).set 30 (.int 0)) 38 (.int 0) := (st_ne g93_38 (by decide))
  have hP : va_P (dC, dI) classes [(oT, .inr (13, (((s58_12_oT.set 1 (.int 0)).set 12 (.int 1)).set 30 (.int 0))))] H := hP
  have hD : va_D A [(oT, .inr (13, (((s58_12_oT.set 1 (.int 0)).set 12 (.int 1)).set 30 (.int 0))))] := hD
  refine lv_aload_n hx hb d_Tx_read_104 rfl (lv_at hl 1 rfl) ?_
  refine lv_aload_n hx hb d_Tx_read_105 rfl (lv_at hl 1 rfl) ?_
  refine va_get (D := (dC, dI)) (ci := 13) (v := .int 0) (C := R_Tx) (T := F_Tx) (N := 39) hx hb hts (fun w h => List.mem_cons_of_mem _ (in_Tx w h)) hown hK.1 hP 0 rfl rfl 23 (by decide) (hts _ (List.mem_cons_of_mem _ mw_1607)) (fun _ h9 => h9) g101_23 d_Tx_read_106 ?_
  refine va_put (D := (dC, dI)) (ci := 13) (v := .int 0) (ty := .int) (C := R_Tx) (T := F_Tx) (N := 39) hx hb hts (fun w h => List.mem_cons_of_mem _ (in_Tx w h)) t_Tx t_Tx_ok n_Tx hown hK.1 hP hD hS 0 rfl rfl 31 (by decide) (hts _ (List.mem_cons_of_mem _ mw_1617)) (fun _ h9 => h9) rfl (by decide +kernel) rfl rfl (st_lt g101_31) d_Tx_read_109 (fun H locs hP hD hS => ?_)
  have g109_1 : fx ((((s58_12_oT.set 1 (.int 0)).set 12 (.int 1)).set 30 (.int 0)).set 31 (.int 0)) 1 (.int 0) := (st_ne g101_1 (by decide))
  have g109_10 : fx ((((s58_12_oT.set 1 (.int 0)).set 12 (.int 1)).set 30 (.int 0)).set 31 (.int 0)) 10 (.int (-1)) := (st_ne g101_10 (by decide))
  have g109_12 : fx ((((s58_12_oT.set 1 (.int 0)).set 12 (.int 1)).set 30 (.int 0)).set 31 (.int 0)) 12 (.int 1) := (st_ne g101_12 (by decide))
  have g109_13 : fx ((((s58_12_oT.set 1 (.int 0)).set 12 (.int 1)).set 30 (.int 0)).set 31 (.int 0)) 13 (.int 0) := (st_ne g101_13 (by decide))
  have g109_23 : fx ((((s58_12_oT.set 1 (.int 0)).set 12 (.int 1)).set 30 (.int 0)).set 31 (.int 0)) 23 (.int 0) := (st_ne g101_23 (by decide))
  have g109_24 : fx ((((s58_12_oT.set 1 (.int 0)).set 12 (.int 1)).set 30 (.int 0)).set 31 (.int 0)) 24 (.int 0) := (st_ne g101_24 (by decide))
  have g109_30 : fx ((((s58_12_oT.set 1 (.int 0)).set 12 (.int 1)).set 30 (.int 0)).set 31 (.int 0)) 30 (.int 0) := (st_ne g101_30 (by decide))
  have g109_31 : fx ((((s58_12_oT.set 1 (.int 0)).set 12 (.int 1)).set 30 (.int 0)).set 31 (.int 0)) 31 (.int 0) := (st_eq g101_31)
  have g109_32 : fx ((((s58_12_oT.set 1 (.int 0)).set 12 (.int 1)).set 30 (.int 0)).set 31 (.int 0)) 32 (.int 0) := (st_ne g101_32 (by decide))
  have g109_33 : fx ((((s58_12_oT.set 1 (.int 0)).set 12 (.int 1)).set 30 (.int 0)).set 31 (.int 0)) 33 (.int 0) := (st_ne g101_33 (by decide))
  have g109_38 : fx ((((s58_12_oT.set 1 (.int 0)).set 12 (.int 1)).set 30 (.int 0)).set 31 (.int 0)) 38 (.int 0) := (st_ne g101_38 (by decide))
  have hP : va_P (dC, dI) classes [(oT, .inr (13, ((((s58_12_oT.set 1 (.int 0)).set 12 (.int 1)).set 30 (.int 0)).set 31 (.int 0))))] H := hP
  have hD : va_D A [(oT, .inr (13, ((((s58_12_oT.set 1 (.int 0)).set 12 (.int 1)).set 30 (.int 0)).set 31 (.int 0))))] := hD
  refine lv_aload_n hx hb d_Tx_read_112 rfl (lv_at hl 1 rfl) ?_
  refine lv_aload_n hx hb d_Tx_read_113 rfl (lv_at hl 1 rfl) ?_
  refine va_get (D := (dC, dI)) (ci := 13) (v := .int 0) (C := R_Tx) (T := F_Tx) (N := 39) hx hb hts (fun w h => List.mem_cons_of_mem _ (in_Tx w h)) hown hK.1 hP 0 rfl rfl 24 (by decide) (hts _ (List.mem_cons_of_mem _ mw_1608)) (fun _ h9 => h9) g109_24 d_Tx_read_114 ?_
  refine va_put (D := (dC, dI)) (ci := 13) (v := .int 0) (ty := .int) (C := R_Tx) (T := F_Tx) (N := 39) hx hb hts (fun w h => List.mem_cons_of_mem _ (in_Tx w h)) t_Tx t_Tx_ok n_Tx hown hK.1 hP hD hS 0 rfl rfl 32 (by decide) (hts _ (List.mem_cons_of_mem _ mw_1619)) (fun _ h9 => h9) rfl (by decide +kernel) rfl rfl (st_lt g109_32) d_Tx_read_117 (fun H locs hP hD hS => ?_)
  have g117_1 : fx (((((s58_12_oT.set 1 (.int 0)).set 12 (.int 1)).set 30 (.int 0)).set 31 (.int 0)).set 32 (.int 0)) 1 (.int 0) := (st_ne g109_1 (by decide))
  have g117_10 : fx (((((s58_12_oT.set 1 (.int 0)).set 12 (.int 1)).set 30 (.int 0)).set 31 (.int 0)).set 32 (.int 0)) 10 (.int (-1)) := (st_ne g109_10 (by decide))
  have g117_12 : fx (((((s58_12_oT.set 1 (.int 0)).set 12 (.int 1)).set 30 (.int 0)).set 31 (.int 0)).set 32 (.int 0)) 12 (.int 1) := (st_ne g109_12 (by decide))
  have g117_13 : fx (((((s58_12_oT.set 1 (.int 0)).set 12 (.int 1)).set 30 (.int 0)).set 31 (.int 0)).set 32 (.int 0)) 13 (.int 0) := (st_ne g109_13 (by decide))
  have g117_23 : fx (((((s58_12_oT.set 1 (.int 0)).set 12 (.int 1)).set 30 (.int 0)).set 31 (.int 0)).set 32 (.int 0)) 23 (.int 0) := (st_ne g109_23 (by decide))
  have g117_24 : fx (((((s58_12_oT.set 1 (.int 0)).set 12 (.int 1)).set 30 (.int 0)).set 31 (.int 0)).set 32 (.int 0)) 24 (.int 0) := (st_ne g109_24 (by decide))
  have g117_30 : fx (((((s58_12_oT.set 1 (.int 0)).set 12 (.int 1)).set 30 (.int 0)).set 31 (.int 0)).set 32 (.int 0)) 30 (.int 0) := (st_ne g109_30 (by decide))
  have g117_31 : fx (((((s58_12_oT.set 1 (.int 0)).set 12 (.int 1)).set 30 (.int 0)).set 31 (.int 0)).set 32 (.int 0)) 31 (.int 0) := (st_ne g109_31 (by decide))
  have g117_32 : fx (((((s58_12_oT.set 1 (.int 0)).set 12 (.int 1)).set 30 (.int 0)).set 31 (.int 0)).set 32 (.int 0)) 32 (.int 0) := (st_eq g109_32)
  have g117_33 : fx (((((s58_12_oT.set 1 (.int 0)).set 12 (.int 1)).set 30 (.int 0)).set 31 (.int 0)).set 32 (.int 0)) 33 (.int 0) := (st_ne g109_33 (by decide))
  have g117_38 : fx (((((s58_12_oT.set 1 (.int 0)).set 12 (.int 1)).set 30 (.int 0)).set 31 (.int 0)).set 32 (.int 0)) 38 (.int 0) := (st_ne g109_38 (by decide))
  have hP : va_P (dC, dI) classes [(oT, .inr (13, (((((s58_12_oT.set 1 (.int 0)).set 12 (.int 1)).set 30 (.int 0)).set 31 (.int 0)).set 32 (.int 0))))] H := hP
  have hD : va_D A [(oT, .inr (13, (((((s58_12_oT.set 1 (.int 0)).set 12 (.int 1)).set 30 (.int 0)).set 31 (.int 0)).set 32 (.int 0))))] := hD
  refine lv_aload_n hx hb d_Tx_read_120 rfl (lv_at hl 1 rfl) ?_
  refine lv_aload_n hx hb d_Tx_read_121 rfl (lv_at hl 1 rfl) ?_
  refine va_get (D := (dC, dI)) (ci := 13) (v := .int 0) (C := R_Tx) (T := F_Tx) (N := 39) hx hb hts (fun w h => List.mem_cons_of_mem _ (in_Tx w h)) hown hK.1 hP 0 rfl rfl 38 (by decide) (hts _ (List.mem_cons_of_mem _ mw_1626)) (fun _ h9 => h9) g117_38 d_Tx_read_122 ?_
  refine va_put (D := (dC, dI)) (ci := 13) (v := .int 0) (ty := .int) (C := R_Tx) (T := F_Tx) (N := 39) hx hb hts (fun w h => List.mem_cons_of_mem _ (in_Tx w h)) t_Tx t_Tx_ok n_Tx hown hK.1 hP hD hS 0 rfl rfl 33 (by decide) (hts _ (List.mem_cons_of_mem _ mw_1621)) (fun _ h9 => h9) rfl (by decide +kernel) rfl rfl (st_lt g117_33) d_Tx_read_125 (fun H locs hP hD hS => ?_)
  have g125_1 : fx ((((((s58_12_oT.set 1 (.int 0)).set 12 (.int 1)).set 30 (.int 0)).set 31 (.int 0)).set 32 (.int 0)).set 33 (.int 0)) 1 (.int 0) := (st_ne g117_1 (by decide))
  have g125_10 : fx ((((((s58_12_oT.set 1 (.int 0)).set 12 (.int 1)).set 30 (.int 0)).set 31 (.int 0)).set 32 (.int 0)).set 33 (.int 0)) 10 (.int (-1)) := (st_ne g117_10 (by decide))
  have g125_12 : fx ((((((s58_12_oT.set 1 (.int 0)).set 12 (.int 1)).set 30 (.int 0)).set 31 (.int 0)).set 32 (.int 0)).set 33 (.int 0)) 12 (.int 1) := (st_ne g117_12 (by decide))
  have g125_13 : fx ((((((s58_12_oT.set 1 (.int 0)).set 12 (.int 1)).set 30 (.int 0)).set 31 (.int 0)).set 32 (.int 0)).set 33 (.int 0)) 13 (.int 0) := (st_ne g117_13 (by decide))
  have g125_23 : fx ((((((s58_12_oT.set 1 (.int 0)).set 12 (.int 1)).set 30 (.int 0)).set 31 (.int 0)).set 32 (.int 0)).set 33 (.int 0)) 23 (.int 0) := (st_ne g117_23 (by decide))
  have g125_24 : fx ((((((s58_12_oT.set 1 (.int 0)).set 12 (.int 1)).set 30 (.int 0)).set 31 (.int 0)).set 32 (.int 0)).set 33 (.int 0)) 24 (.int 0) := (st_ne g117_24 (by decide))
  have g125_30 : fx ((((((s58_12_oT.set 1 (.int 0)).set 12 (.int 1)).set 30 (.int 0)).set 31 (.int 0)).set 32 (.int 0)).set 33 (.int 0)) 30 (.int 0) := (st_ne g117_30 (by decide))
  have g125_31 : fx ((((((s58_12_oT.set 1 (.int 0)).set 12 (.int 1)).set 30 (.int 0)).set 31 (.int 0)).set 32 (.int 0)).set 33 (.int 0)) 31 (.int 0) := (st_ne g117_31 (by decide))
  have g125_32 : fx ((((((s58_12_oT.set 1 (.int 0)).set 12 (.int 1)).set 30 (.int 0)).set 31 (.int 0)).set 32 (.int 0)).set 33 (.int 0)) 32 (.int 0) := (st_ne g117_32 (by decide))
  have g125_33 : fx ((((((s58_12_oT.set 1 (.int 0)).set 12 (.int 1)).set 30 (.int 0)).set 31 (.int 0)).set 32 (.int 0)).set 33 (.int 0)) 33 (.int 0) := (st_eq g117_33)
  have g125_38 : fx ((((((s58_12_oT.set 1 (.int 0)).set 12 (.int 1)).set 30 (.int 0)).set 31 (.int 0)).set 32 (.int 0)).set 33 (.int 0)) 38 (.int 0) := (st_ne g117_38 (by decide))
  have hP : va_P (dC, dI) classes [(oT, .inr (13, ((((((s58_12_oT.set 1 (.int 0)).set 12 (.int 1)).set 30 (.int 0)).set 31 (.int 0)).set 32 (.int 0)).set 33 (.int 0))))] H := hP
  have hD : va_D A [(oT, .inr (13, ((((((s58_12_oT.set 1 (.int 0)).set 12 (.int 1)).set 30 (.int 0)).set 31 (.int 0)).set 32 (.int 0)).set 33 (.int 0))))] := hD
  refine lv_aload_n hx hb d_Tx_read_128 rfl (lv_at hl 1 rfl) ?_
  refine va_get (D := (dC, dI)) (ci := 13) (v := .int 0) (C := R_Tx) (T := F_Tx) (N := 39) hx hb hts (fun w h => List.mem_cons_of_mem _ (in_Tx w h)) hown hK.1 hP 0 rfl rfl 33 (by decide) (hts _ (List.mem_cons_of_mem _ mw_1621)) (fun _ h9 => h9) g125_33 d_Tx_read_129 ?_
  exact W.iret (v := 0) hx hb hr (fun t ht hW => ⟨⟨_, (), rfl, (rfl), trivial⟩, hS.F ht⟩) hS.2.2 d_Tx_read_132
abbrev t_Mr_cut_131 : List UInt8 := 177 :: []
abbrev t_Mr_cut_128 : List UInt8 := 167 :: 255 :: 135 :: t_Mr_cut_131
abbrev t_Mr_cut_125 : List UInt8 := 181 :: 0 :: 63 :: t_Mr_cut_128
abbrev t_Mr_cut_124 : List UInt8 := 96 :: t_Mr_cut_125
abbrev t_Mr_cut_123 : List UInt8 := 4 :: t_Mr_cut_124
abbrev t_Mr_cut_120 : List UInt8 := 180 :: 0 :: 63 :: t_Mr_cut_123
abbrev t_Mr_cut_119 : List UInt8 := 89 :: t_Mr_cut_120
abbrev t_Mr_cut_118 : List UInt8 := 42 :: t_Mr_cut_119
abbrev t_Mr_cut_117 : List UInt8 := 79 :: t_Mr_cut_118
abbrev t_Mr_cut_116 : List UInt8 := 27 :: t_Mr_cut_117
abbrev t_Mr_cut_113 : List UInt8 := 180 :: 0 :: 63 :: t_Mr_cut_116
abbrev t_Mr_cut_112 : List UInt8 := 42 :: t_Mr_cut_113
abbrev t_Mr_cut_109 : List UInt8 := 180 :: 0 :: 19 :: t_Mr_cut_112
abbrev t_Mr_cut_108 : List UInt8 := 42 :: t_Mr_cut_109
abbrev t_Mr_cut_105 : List UInt8 := 167 :: 255 :: 204 :: t_Mr_cut_108
abbrev t_Mr_cut_102 : List UInt8 := 132 :: 1 :: 1 :: t_Mr_cut_105
abbrev t_Mr_cut_99 : List UInt8 := 154 :: 0 :: 9 :: t_Mr_cut_102
abbrev t_Mr_cut_96 : List UInt8 := 184 :: 0 :: 66 :: t_Mr_cut_99
abbrev t_Mr_cut_95 : List UInt8 := 51 :: t_Mr_cut_96
abbrev t_Mr_cut_94 : List UInt8 := 27 :: t_Mr_cut_95
abbrev t_Mr_cut_91 : List UInt8 := 180 :: 0 :: 11 :: t_Mr_cut_94
abbrev t_Mr_cut_90 : List UInt8 := 42 :: t_Mr_cut_91
abbrev t_Mr_cut_87 : List UInt8 := 159 :: 0 :: 21 :: t_Mr_cut_90
abbrev t_Mr_cut_85 : List UInt8 := 16 :: 10 :: t_Mr_cut_87
abbrev t_Mr_cut_84 : List UInt8 := 51 :: t_Mr_cut_85
abbrev t_Mr_cut_83 : List UInt8 := 27 :: t_Mr_cut_84
abbrev t_Mr_cut_80 : List UInt8 := 180 :: 0 :: 11 :: t_Mr_cut_83
abbrev t_Mr_cut_79 : List UInt8 := 42 :: t_Mr_cut_80
abbrev t_Mr_cut_76 : List UInt8 := 159 :: 0 :: 32 :: t_Mr_cut_79
abbrev t_Mr_cut_74 : List UInt8 := 16 :: 32 :: t_Mr_cut_76
abbrev t_Mr_cut_73 : List UInt8 := 51 :: t_Mr_cut_74
abbrev t_Mr_cut_72 : List UInt8 := 27 :: t_Mr_cut_73
abbrev t_Mr_cut_69 : List UInt8 := 180 :: 0 :: 11 :: t_Mr_cut_72
abbrev t_Mr_cut_68 : List UInt8 := 42 :: t_Mr_cut_69
abbrev t_Mr_cut_65 : List UInt8 := 162 :: 0 :: 43 :: t_Mr_cut_68
abbrev t_Mr_cut_62 : List UInt8 := 180 :: 0 :: 59 :: t_Mr_cut_65
abbrev t_Mr_cut_61 : List UInt8 := 42 :: t_Mr_cut_62
abbrev t_Mr_cut_60 : List UInt8 := 27 :: t_Mr_cut_61
abbrev t_Mr_cut_57 : List UInt8 := 154 :: 0 :: 51 :: t_Mr_cut_60
abbrev t_Mr_cut_54 : List UInt8 := 184 :: 0 :: 66 :: t_Mr_cut_57
abbrev t_Mr_cut_53 : List UInt8 := 28 :: t_Mr_cut_54
abbrev t_Mr_cut_50 : List UInt8 := 132 :: 1 :: 1 :: t_Mr_cut_53
abbrev t_Mr_cut_49 : List UInt8 := 79 :: t_Mr_cut_50
abbrev t_Mr_cut_48 : List UInt8 := 27 :: t_Mr_cut_49
abbrev t_Mr_cut_45 : List UInt8 := 180 :: 0 :: 63 :: t_Mr_cut_48
abbrev t_Mr_cut_44 : List UInt8 := 42 :: t_Mr_cut_45
abbrev t_Mr_cut_41 : List UInt8 := 180 :: 0 :: 15 :: t_Mr_cut_44
abbrev t_Mr_cut_40 : List UInt8 := 42 :: t_Mr_cut_41
abbrev t_Mr_cut_37 : List UInt8 := 167 :: 0 :: 91 :: t_Mr_cut_40
abbrev t_Mr_cut_34 : List UInt8 := 132 :: 1 :: 1 :: t_Mr_cut_37
abbrev t_Mr_cut_31 : List UInt8 := 160 :: 0 :: 9 :: t_Mr_cut_34
abbrev t_Mr_cut_29 : List UInt8 := 16 :: 10 :: t_Mr_cut_31
abbrev t_Mr_cut_28 : List UInt8 := 28 :: t_Mr_cut_29
abbrev t_Mr_cut_25 : List UInt8 := 159 :: 0 :: 9 :: t_Mr_cut_28
abbrev t_Mr_cut_23 : List UInt8 := 16 :: 32 :: t_Mr_cut_25
abbrev t_Mr_cut_22 : List UInt8 := 28 :: t_Mr_cut_23
abbrev t_Mr_cut_21 : List UInt8 := 61 :: t_Mr_cut_22
abbrev t_Mr_cut_20 : List UInt8 := 51 :: t_Mr_cut_21
abbrev t_Mr_cut_19 : List UInt8 := 27 :: t_Mr_cut_20
abbrev t_Mr_cut_16 : List UInt8 := 180 :: 0 :: 11 :: t_Mr_cut_19
abbrev t_Mr_cut_15 : List UInt8 := 42 :: t_Mr_cut_16
abbrev t_Mr_cut_12 : List UInt8 := 162 :: 0 :: 119 :: t_Mr_cut_15
abbrev t_Mr_cut_9 : List UInt8 := 180 :: 0 :: 59 :: t_Mr_cut_12
abbrev t_Mr_cut_8 : List UInt8 := 42 :: t_Mr_cut_9
abbrev t_Mr_cut_7 : List UInt8 := 27 :: t_Mr_cut_8
abbrev t_Mr_cut_6 : List UInt8 := 60 :: t_Mr_cut_7
abbrev t_Mr_cut_5 : List UInt8 := 3 :: t_Mr_cut_6
abbrev t_Mr_cut_2 : List UInt8 := 181 :: 0 :: 63 :: t_Mr_cut_5
abbrev t_Mr_cut_1 : List UInt8 := 3 :: t_Mr_cut_2
abbrev t_Mr_cut_0 : List UInt8 := 42 :: t_Mr_cut_1
theorem a_Mr_cut_0 : dk_at b_Mr_cut 0 t_Mr_cut_0 := dk_start (by decide +kernel)
theorem a_Mr_cut_1 : dk_at b_Mr_cut 1 t_Mr_cut_1 := dk_go 1 a_Mr_cut_0 rfl
theorem a_Mr_cut_2 : dk_at b_Mr_cut 2 t_Mr_cut_2 := dk_go 1 a_Mr_cut_1 rfl
theorem a_Mr_cut_5 : dk_at b_Mr_cut 5 t_Mr_cut_5 := dk_go 3 a_Mr_cut_2 rfl
theorem a_Mr_cut_6 : dk_at b_Mr_cut 6 t_Mr_cut_6 := dk_go 1 a_Mr_cut_5 rfl
theorem a_Mr_cut_7 : dk_at b_Mr_cut 7 t_Mr_cut_7 := dk_go 1 a_Mr_cut_6 rfl
theorem a_Mr_cut_8 : dk_at b_Mr_cut 8 t_Mr_cut_8 := dk_go 1 a_Mr_cut_7 rfl
theorem a_Mr_cut_9 : dk_at b_Mr_cut 9 t_Mr_cut_9 := dk_go 1 a_Mr_cut_8 rfl
theorem a_Mr_cut_12 : dk_at b_Mr_cut 12 t_Mr_cut_12 := dk_go 3 a_Mr_cut_9 rfl
theorem a_Mr_cut_15 : dk_at b_Mr_cut 15 t_Mr_cut_15 := dk_go 3 a_Mr_cut_12 rfl
theorem a_Mr_cut_16 : dk_at b_Mr_cut 16 t_Mr_cut_16 := dk_go 1 a_Mr_cut_15 rfl
theorem a_Mr_cut_19 : dk_at b_Mr_cut 19 t_Mr_cut_19 := dk_go 3 a_Mr_cut_16 rfl
theorem a_Mr_cut_20 : dk_at b_Mr_cut 20 t_Mr_cut_20 := dk_go 1 a_Mr_cut_19 rfl
theorem a_Mr_cut_21 : dk_at b_Mr_cut 21 t_Mr_cut_21 := dk_go 1 a_Mr_cut_20 rfl
theorem a_Mr_cut_22 : dk_at b_Mr_cut 22 t_Mr_cut_22 := dk_go 1 a_Mr_cut_21 rfl
theorem a_Mr_cut_23 : dk_at b_Mr_cut 23 t_Mr_cut_23 := dk_go 1 a_Mr_cut_22 rfl
theorem a_Mr_cut_25 : dk_at b_Mr_cut 25 t_Mr_cut_25 := dk_go 2 a_Mr_cut_23 rfl
theorem a_Mr_cut_28 : dk_at b_Mr_cut 28 t_Mr_cut_28 := dk_go 3 a_Mr_cut_25 rfl
theorem a_Mr_cut_29 : dk_at b_Mr_cut 29 t_Mr_cut_29 := dk_go 1 a_Mr_cut_28 rfl
theorem a_Mr_cut_31 : dk_at b_Mr_cut 31 t_Mr_cut_31 := dk_go 2 a_Mr_cut_29 rfl
theorem a_Mr_cut_34 : dk_at b_Mr_cut 34 t_Mr_cut_34 := dk_go 3 a_Mr_cut_31 rfl
theorem a_Mr_cut_37 : dk_at b_Mr_cut 37 t_Mr_cut_37 := dk_go 3 a_Mr_cut_34 rfl
theorem a_Mr_cut_40 : dk_at b_Mr_cut 40 t_Mr_cut_40 := dk_go 3 a_Mr_cut_37 rfl
theorem a_Mr_cut_41 : dk_at b_Mr_cut 41 t_Mr_cut_41 := dk_go 1 a_Mr_cut_40 rfl
theorem a_Mr_cut_44 : dk_at b_Mr_cut 44 t_Mr_cut_44 := dk_go 3 a_Mr_cut_41 rfl
theorem a_Mr_cut_45 : dk_at b_Mr_cut 45 t_Mr_cut_45 := dk_go 1 a_Mr_cut_44 rfl
theorem a_Mr_cut_48 : dk_at b_Mr_cut 48 t_Mr_cut_48 := dk_go 3 a_Mr_cut_45 rfl
theorem a_Mr_cut_49 : dk_at b_Mr_cut 49 t_Mr_cut_49 := dk_go 1 a_Mr_cut_48 rfl
theorem a_Mr_cut_50 : dk_at b_Mr_cut 50 t_Mr_cut_50 := dk_go 1 a_Mr_cut_49 rfl
theorem a_Mr_cut_53 : dk_at b_Mr_cut 53 t_Mr_cut_53 := dk_go 3 a_Mr_cut_50 rfl
theorem a_Mr_cut_54 : dk_at b_Mr_cut 54 t_Mr_cut_54 := dk_go 1 a_Mr_cut_53 rfl
theorem a_Mr_cut_57 : dk_at b_Mr_cut 57 t_Mr_cut_57 := dk_go 3 a_Mr_cut_54 rfl
theorem a_Mr_cut_60 : dk_at b_Mr_cut 60 t_Mr_cut_60 := dk_go 3 a_Mr_cut_57 rfl
theorem a_Mr_cut_61 : dk_at b_Mr_cut 61 t_Mr_cut_61 := dk_go 1 a_Mr_cut_60 rfl
theorem a_Mr_cut_62 : dk_at b_Mr_cut 62 t_Mr_cut_62 := dk_go 1 a_Mr_cut_61 rfl
theorem a_Mr_cut_65 : dk_at b_Mr_cut 65 t_Mr_cut_65 := dk_go 3 a_Mr_cut_62 rfl
theorem a_Mr_cut_68 : dk_at b_Mr_cut 68 t_Mr_cut_68 := dk_go 3 a_Mr_cut_65 rfl
theorem a_Mr_cut_69 : dk_at b_Mr_cut 69 t_Mr_cut_69 := dk_go 1 a_Mr_cut_68 rfl
theorem a_Mr_cut_72 : dk_at b_Mr_cut 72 t_Mr_cut_72 := dk_go 3 a_Mr_cut_69 rfl
theorem a_Mr_cut_73 : dk_at b_Mr_cut 73 t_Mr_cut_73 := dk_go 1 a_Mr_cut_72 rfl
theorem a_Mr_cut_74 : dk_at b_Mr_cut 74 t_Mr_cut_74 := dk_go 1 a_Mr_cut_73 rfl
theorem a_Mr_cut_76 : dk_at b_Mr_cut 76 t_Mr_cut_76 := dk_go 2 a_Mr_cut_74 rfl
theorem a_Mr_cut_79 : dk_at b_Mr_cut 79 t_Mr_cut_79 := dk_go 3 a_Mr_cut_76 rfl
theorem a_Mr_cut_80 : dk_at b_Mr_cut 80 t_Mr_cut_80 := dk_go 1 a_Mr_cut_79 rfl
theorem a_Mr_cut_83 : dk_at b_Mr_cut 83 t_Mr_cut_83 := dk_go 3 a_Mr_cut_80 rfl
theorem a_Mr_cut_84 : dk_at b_Mr_cut 84 t_Mr_cut_84 := dk_go 1 a_Mr_cut_83 rfl
theorem a_Mr_cut_85 : dk_at b_Mr_cut 85 t_Mr_cut_85 := dk_go 1 a_Mr_cut_84 rfl
theorem a_Mr_cut_87 : dk_at b_Mr_cut 87 t_Mr_cut_87 := dk_go 2 a_Mr_cut_85 rfl
theorem a_Mr_cut_90 : dk_at b_Mr_cut 90 t_Mr_cut_90 := dk_go 3 a_Mr_cut_87 rfl
theorem a_Mr_cut_91 : dk_at b_Mr_cut 91 t_Mr_cut_91 := dk_go 1 a_Mr_cut_90 rfl
theorem a_Mr_cut_94 : dk_at b_Mr_cut 94 t_Mr_cut_94 := dk_go 3 a_Mr_cut_91 rfl
theorem a_Mr_cut_95 : dk_at b_Mr_cut 95 t_Mr_cut_95 := dk_go 1 a_Mr_cut_94 rfl
theorem a_Mr_cut_96 : dk_at b_Mr_cut 96 t_Mr_cut_96 := dk_go 1 a_Mr_cut_95 rfl
theorem a_Mr_cut_99 : dk_at b_Mr_cut 99 t_Mr_cut_99 := dk_go 3 a_Mr_cut_96 rfl
theorem a_Mr_cut_102 : dk_at b_Mr_cut 102 t_Mr_cut_102 := dk_go 3 a_Mr_cut_99 rfl
theorem a_Mr_cut_105 : dk_at b_Mr_cut 105 t_Mr_cut_105 := dk_go 3 a_Mr_cut_102 rfl
theorem a_Mr_cut_108 : dk_at b_Mr_cut 108 t_Mr_cut_108 := dk_go 3 a_Mr_cut_105 rfl
theorem a_Mr_cut_109 : dk_at b_Mr_cut 109 t_Mr_cut_109 := dk_go 1 a_Mr_cut_108 rfl
theorem a_Mr_cut_112 : dk_at b_Mr_cut 112 t_Mr_cut_112 := dk_go 3 a_Mr_cut_109 rfl
theorem a_Mr_cut_113 : dk_at b_Mr_cut 113 t_Mr_cut_113 := dk_go 1 a_Mr_cut_112 rfl
theorem a_Mr_cut_116 : dk_at b_Mr_cut 116 t_Mr_cut_116 := dk_go 3 a_Mr_cut_113 rfl
theorem a_Mr_cut_117 : dk_at b_Mr_cut 117 t_Mr_cut_117 := dk_go 1 a_Mr_cut_116 rfl
theorem a_Mr_cut_118 : dk_at b_Mr_cut 118 t_Mr_cut_118 := dk_go 1 a_Mr_cut_117 rfl
theorem a_Mr_cut_119 : dk_at b_Mr_cut 119 t_Mr_cut_119 := dk_go 1 a_Mr_cut_118 rfl
theorem a_Mr_cut_120 : dk_at b_Mr_cut 120 t_Mr_cut_120 := dk_go 1 a_Mr_cut_119 rfl
theorem a_Mr_cut_123 : dk_at b_Mr_cut 123 t_Mr_cut_123 := dk_go 3 a_Mr_cut_120 rfl
theorem a_Mr_cut_124 : dk_at b_Mr_cut 124 t_Mr_cut_124 := dk_go 1 a_Mr_cut_123 rfl
theorem a_Mr_cut_125 : dk_at b_Mr_cut 125 t_Mr_cut_125 := dk_go 1 a_Mr_cut_124 rfl
theorem a_Mr_cut_128 : dk_at b_Mr_cut 128 t_Mr_cut_128 := dk_go 3 a_Mr_cut_125 rfl
theorem a_Mr_cut_131 : dk_at b_Mr_cut 131 t_Mr_cut_131 := dk_go 3 a_Mr_cut_128 rfl
theorem d_Mr_cut_0 : decode b_Mr_cut 0 = .ok (.aload_n 0, 1) := dk_0 a_Mr_cut_0 (dko_42 _)
theorem d_Mr_cut_1 : decode b_Mr_cut 1 = .ok (.iconst 0, 1) := dk_0 a_Mr_cut_1 (dko_3 _)
theorem d_Mr_cut_2 : decode b_Mr_cut 2 = .ok (.putfield 63, 3) := dk_U2 a_Mr_cut_2 (dko_181 _) rfl
theorem d_Mr_cut_5 : decode b_Mr_cut 5 = .ok (.iconst 0, 1) := dk_0 a_Mr_cut_5 (dko_3 _)
theorem d_Mr_cut_6 : decode b_Mr_cut 6 = .ok (.istore_n 1, 1) := dk_0 a_Mr_cut_6 (dko_60 _)
theorem d_Mr_cut_7 : decode b_Mr_cut 7 = .ok (.iload_n 1, 1) := dk_0 a_Mr_cut_7 (dko_27 _)
theorem d_Mr_cut_8 : decode b_Mr_cut 8 = .ok (.aload_n 0, 1) := dk_0 a_Mr_cut_8 (dko_42 _)
theorem d_Mr_cut_9 : decode b_Mr_cut 9 = .ok (.getfield 59, 3) := dk_U2 a_Mr_cut_9 (dko_180 _) rfl
theorem d_Mr_cut_12 : decode b_Mr_cut 12 = .ok (.if_icmp .ge 119, 3) := dk_S2 a_Mr_cut_12 (dko_162 _) (by decide +kernel)
theorem d_Mr_cut_131 : decode b_Mr_cut 131 = .ok (.return_, 1) := dk_0 a_Mr_cut_131 (dko_177 _)
set_option maxHeartbeats 4000000 in
set_option maxRecDepth 100000 in
theorem c_Mr_cut (l : Launch) (dC : Nat → ClassId) (dI : Nat → Nat → Nat) (cI cB cZ cJ : ClassId) (oR : Nat) (fr : List Value) (hr_size : fx fr 1 (.int 0)) (hr_words : fx fr 4 (.int 0)) (hr_next : fx fr 5 (.int 0)) (hr_nodes : fx fr 11 (.int 0)) (hr_half : fx fr 12 (.int 0)) (hr_made : fx fr 13 (.int 0)) (hr_rows : fx fr 20 (.int 0)) (sz : Nat) : Met l y_Mr_cut w_Mr_cut ({ frames := 0, cells := 0, slots := 0, locals := 0 }) (va_Pc [.ref oR] (PW dC dI cI cB cZ cJ [(oR, .inr (14, fr))] sz)) (va_Qv (fun _ : Unit => True) (fun (_ : Unit) (t : State) => ∃ (n_fr : List Value), fx n_fr 1 (.int 0) ∧ fx n_fr 4 (.int 0) ∧ fx n_fr 5 (.int 0) ∧ fx n_fr 11 (.int 0) ∧ fx n_fr 12 (.int 0) ∧ fx n_fr 13 (.int 0) ∧ fx n_fr 20 (.int 0) ∧ va_P (dC, dI) classes [(oR, .inr (14, n_fr))] t.heap ∧ va_D (va_A [(oR, .inr (14, fr))] sz) [(oR, .inr (14, n_fr))]) (va_A [(oR, .inr (14, fr))] sz)) 0 0 (va_A [(oR, .inr (14, fr))] sz) := by
  refine Met.ofW (cc := b_Mr_cut) (maxL := 3) (ret := none) (by decide) rfl ?_
  intro p e s m args below meth c s₁ B hml hv
  obtain ⟨rfl, hsz, hP, hK, hD⟩ := hv
  have hx := B.exec
  have hb := B.bytes
  have hr := B.returns
  have hts := atoms_spec (ws := w_Mr_cut) B.pre
  have hown : s.vm.findClass R_Mr = some m.cls := findClass_of_methodNamed B.named
  have hlocks := B.notSynchronized
  subst hsz
  have hD := hD.self (sz := s.heap.size)
  generalize hAe : va_A [(oR, .inr (14, fr))] s.heap.size = A at hD ⊢
  have hA : ∀ q : Nat, s.heap.size ≤ q → A q := fun q h => by rw [← hAe]; exact Or.inr h
  have hS : va_S A s.heap s.heap [] := va_S.rf
  have hP : va_P (dC, dI) classes [(oR, .inr (14, fr))] s.heap := hP
  have hl := lv_entry ([.ref oR]) (n := 3) (Nat.le_of_ble_eq_true rfl)
  rw [lg_entry_eq]
  generalize (lg_sl ([.ref oR]) ++ List.replicate (3 - (lg_sl ([.ref oR])).length) Slot.unset).toArray = ls at hl ⊢
  have hl : lv_has ls 3 [(0, .ref oR)] := hl
  refine lv_aload_n hx hb d_Mr_cut_0 rfl (lv_at hl 0 rfl) ?_
  refine lv_iconst (v := 0) hx hb d_Mr_cut_1 (by decide) ?_
  refine va_put (D := (dC, dI)) (ci := 14) (v := .int 0) (ty := .int) (C := R_Mr) (T := F_Mr) (N := 25) hx hb hts (fun w h => List.mem_cons_of_mem _ (in_Mr w h)) t_Mr t_Mr_ok n_Mr hown hK.1 hP hD hS 0 rfl rfl 4 (by decide) (hts _ (List.mem_cons_of_mem _ mw_1716)) (fun _ h9 => h9) rfl (by decide +kernel) rfl rfl (st_lt hr_words) d_Mr_cut_2 (fun H locs hP hD hS => ?_)
  have g2_12 : fx (fr.set 4 (.int 0)) 12 (.int 0) := (st_ne hr_half (by decide))
  have g2_13 : fx (fr.set 4 (.int 0)) 13 (.int 0) := (st_ne hr_made (by decide))
  have g2_5 : fx (fr.set 4 (.int 0)) 5 (.int 0) := (st_ne hr_next (by decide))
  have g2_11 : fx (fr.set 4 (.int 0)) 11 (.int 0) := (st_ne hr_nodes (by decide))
  have g2_20 : fx (fr.set 4 (.int 0)) 20 (.int 0) := (st_ne hr_rows (by decide))
  have g2_1 : fx (fr.set 4 (.int 0)) 1 (.int 0) := (st_ne hr_size (by decide))
  have g2_4 : fx (fr.set 4 (.int 0)) 4 (.int 0) := (st_eq hr_words)
  have hP : va_P (dC, dI) classes [(oR, .inr (14, (fr.set 4 (.int 0))))] H := hP
  have hD : va_D A [(oR, .inr (14, (fr.set 4 (.int 0))))] := hD
  refine lv_iconst (v := 0) hx hb d_Mr_cut_5 (by decide) ?_
  refine lv_istore_n hx hb d_Mr_cut_6 rfl hl (by decide) rfl (fun ls hl => ?_)
  have hl : lv_has ls 3 [(1, .int 0), (0, .ref oR)] := hl
  refine lv_iload_n hx hb d_Mr_cut_7 rfl (lv_at hl 0 rfl) ?_
  refine lv_aload_n hx hb d_Mr_cut_8 rfl (lv_at hl 1 rfl) ?_
  refine va_get (D := (dC, dI)) (ci := 14) (v := .int 0) (C := R_Mr) (T := F_Mr) (N := 25) hx hb hts (fun w h => List.mem_cons_of_mem _ (in_Mr w h)) hown hK.1 hP 0 rfl rfl 1 (by decide) (hts _ (List.mem_cons_of_mem _ mw_1713)) (fun _ h9 => h9) g2_1 d_Mr_cut_9 ?_
  refine lv_icmp_ge (tgt := 131) hx hb d_Mr_cut_12 (by decide) (fun _ => ?_) (fun h => absurd (by decide) h)
  exact W.vret hx hb hr (fun t ht hW => ⟨⟨(), rfl, trivial, ⟨(fr.set 4 (.int 0)), g2_1, g2_4, g2_5, g2_11, g2_12, g2_13, g2_20, by rw [ht]; exact hP, hD⟩⟩, hS.F ht⟩) hS.2.2 d_Mr_cut_131
abbrev t_Mr_read_154 : List UInt8 := 172 :: []
abbrev t_Mr_read_151 : List UInt8 := 180 :: 0 :: 133 :: t_Mr_read_154
abbrev t_Mr_read_150 : List UInt8 := 42 :: t_Mr_read_151
abbrev t_Mr_read_147 : List UInt8 := 167 :: 255 :: 224 :: t_Mr_read_150
abbrev t_Mr_read_144 : List UInt8 := 132 :: 2 :: 1 :: t_Mr_read_147
abbrev t_Mr_read_143 : List UInt8 := 79 :: t_Mr_read_144
abbrev t_Mr_read_142 : List UInt8 := 3 :: t_Mr_read_143
abbrev t_Mr_read_141 : List UInt8 := 28 :: t_Mr_read_142
abbrev t_Mr_read_138 : List UInt8 := 180 :: 0 :: 56 :: t_Mr_read_141
abbrev t_Mr_read_137 : List UInt8 := 42 :: t_Mr_read_138
abbrev t_Mr_read_136 : List UInt8 := 84 :: t_Mr_read_137
abbrev t_Mr_read_135 : List UInt8 := 3 :: t_Mr_read_136
abbrev t_Mr_read_134 : List UInt8 := 28 :: t_Mr_read_135
abbrev t_Mr_read_131 : List UInt8 := 180 :: 0 :: 53 :: t_Mr_read_134
abbrev t_Mr_read_130 : List UInt8 := 42 :: t_Mr_read_131
abbrev t_Mr_read_129 : List UInt8 := 79 :: t_Mr_read_130
abbrev t_Mr_read_128 : List UInt8 := 3 :: t_Mr_read_129
abbrev t_Mr_read_127 : List UInt8 := 28 :: t_Mr_read_128
abbrev t_Mr_read_124 : List UInt8 := 180 :: 0 :: 50 :: t_Mr_read_127
abbrev t_Mr_read_123 : List UInt8 := 42 :: t_Mr_read_124
abbrev t_Mr_read_120 : List UInt8 := 162 :: 0 :: 30 :: t_Mr_read_123
abbrev t_Mr_read_117 : List UInt8 := 180 :: 0 :: 133 :: t_Mr_read_120
abbrev t_Mr_read_116 : List UInt8 := 42 :: t_Mr_read_117
abbrev t_Mr_read_115 : List UInt8 := 28 :: t_Mr_read_116
abbrev t_Mr_read_114 : List UInt8 := 61 :: t_Mr_read_115
abbrev t_Mr_read_113 : List UInt8 := 3 :: t_Mr_read_114
abbrev t_Mr_read_110 : List UInt8 := 181 :: 0 :: 133 :: t_Mr_read_113
abbrev t_Mr_read_107 : List UInt8 := 180 :: 0 :: 120 :: t_Mr_read_110
abbrev t_Mr_read_106 : List UInt8 := 42 :: t_Mr_read_107
abbrev t_Mr_read_105 : List UInt8 := 42 :: t_Mr_read_106
abbrev t_Mr_read_102 : List UInt8 := 181 :: 0 :: 85 :: t_Mr_read_105
abbrev t_Mr_read_101 : List UInt8 := 100 :: t_Mr_read_102
abbrev t_Mr_read_98 : List UInt8 := 180 :: 0 :: 85 :: t_Mr_read_101
abbrev t_Mr_read_97 : List UInt8 := 42 :: t_Mr_read_98
abbrev t_Mr_read_96 : List UInt8 := 4 :: t_Mr_read_97
abbrev t_Mr_read_95 : List UInt8 := 42 :: t_Mr_read_96
abbrev t_Mr_read_94 : List UInt8 := 172 :: t_Mr_read_95
abbrev t_Mr_read_93 : List UInt8 := 100 :: t_Mr_read_94
abbrev t_Mr_read_90 : List UInt8 := 180 :: 0 :: 70 :: t_Mr_read_93
abbrev t_Mr_read_89 : List UInt8 := 42 :: t_Mr_read_90
abbrev t_Mr_read_88 : List UInt8 := 2 :: t_Mr_read_89
abbrev t_Mr_read_85 : List UInt8 := 154 :: 0 :: 10 :: t_Mr_read_88
abbrev t_Mr_read_84 : List UInt8 := 27 :: t_Mr_read_85
abbrev t_Mr_read_81 : List UInt8 := 167 :: 255 :: 201 :: t_Mr_read_84
abbrev t_Mr_read_80 : List UInt8 := 60 :: t_Mr_read_81
abbrev t_Mr_read_79 : List UInt8 := 3 :: t_Mr_read_80
abbrev t_Mr_read_76 : List UInt8 := 167 :: 0 :: 4 :: t_Mr_read_79
abbrev t_Mr_read_75 : List UInt8 := 4 :: t_Mr_read_76
abbrev t_Mr_read_72 : List UInt8 := 153 :: 0 :: 7 :: t_Mr_read_75
abbrev t_Mr_read_69 : List UInt8 := 182 :: 0 :: 129 :: t_Mr_read_72
abbrev t_Mr_read_68 : List UInt8 := 42 :: t_Mr_read_69
abbrev t_Mr_read_65 : List UInt8 := 162 :: 0 :: 14 :: t_Mr_read_68
abbrev t_Mr_read_63 : List UInt8 := 16 :: 40 :: t_Mr_read_65
abbrev t_Mr_read_60 : List UInt8 := 180 :: 0 :: 120 :: t_Mr_read_63
abbrev t_Mr_read_59 : List UInt8 := 42 :: t_Mr_read_60
abbrev t_Mr_read_56 : List UInt8 := 153 :: 0 :: 23 :: t_Mr_read_59
abbrev t_Mr_read_53 : List UInt8 := 182 :: 0 :: 94 :: t_Mr_read_56
abbrev t_Mr_read_52 : List UInt8 := 6 :: t_Mr_read_53
abbrev t_Mr_read_51 : List UInt8 := 3 :: t_Mr_read_52
abbrev t_Mr_read_50 : List UInt8 := 3 :: t_Mr_read_51
abbrev t_Mr_read_49 : List UInt8 := 3 :: t_Mr_read_50
abbrev t_Mr_read_48 : List UInt8 := 3 :: t_Mr_read_49
abbrev t_Mr_read_46 : List UInt8 := 16 :: 114 :: t_Mr_read_48
abbrev t_Mr_read_44 : List UInt8 := 16 :: 97 :: t_Mr_read_46
abbrev t_Mr_read_42 : List UInt8 := 16 :: 98 :: t_Mr_read_44
abbrev t_Mr_read_41 : List UInt8 := 42 :: t_Mr_read_42
abbrev t_Mr_read_38 : List UInt8 := 162 :: 0 :: 46 :: t_Mr_read_41
abbrev t_Mr_read_35 : List UInt8 := 180 :: 0 :: 63 :: t_Mr_read_38
abbrev t_Mr_read_34 : List UInt8 := 42 :: t_Mr_read_35
abbrev t_Mr_read_31 : List UInt8 := 180 :: 0 :: 70 :: t_Mr_read_34
abbrev t_Mr_read_30 : List UInt8 := 42 :: t_Mr_read_31
abbrev t_Mr_read_27 : List UInt8 := 153 :: 0 :: 57 :: t_Mr_read_30
abbrev t_Mr_read_26 : List UInt8 := 27 :: t_Mr_read_27
abbrev t_Mr_read_25 : List UInt8 := 60 :: t_Mr_read_26
abbrev t_Mr_read_24 : List UInt8 := 4 :: t_Mr_read_25
abbrev t_Mr_read_21 : List UInt8 := 181 :: 0 :: 120 :: t_Mr_read_24
abbrev t_Mr_read_20 : List UInt8 := 3 :: t_Mr_read_21
abbrev t_Mr_read_19 : List UInt8 := 42 :: t_Mr_read_20
abbrev t_Mr_read_16 : List UInt8 := 181 :: 0 :: 88 :: t_Mr_read_19
abbrev t_Mr_read_15 : List UInt8 := 3 :: t_Mr_read_16
abbrev t_Mr_read_14 : List UInt8 := 42 :: t_Mr_read_15
abbrev t_Mr_read_11 : List UInt8 := 181 :: 0 :: 70 :: t_Mr_read_14
abbrev t_Mr_read_10 : List UInt8 := 3 :: t_Mr_read_11
abbrev t_Mr_read_9 : List UInt8 := 42 :: t_Mr_read_10
abbrev t_Mr_read_6 : List UInt8 := 181 :: 0 :: 59 :: t_Mr_read_9
abbrev t_Mr_read_5 : List UInt8 := 3 :: t_Mr_read_6
abbrev t_Mr_read_4 : List UInt8 := 42 :: t_Mr_read_5
abbrev t_Mr_read_1 : List UInt8 := 182 :: 0 :: 126 :: t_Mr_read_4
abbrev t_Mr_read_0 : List UInt8 := 42 :: t_Mr_read_1
theorem a_Mr_read_0 : dk_at b_Mr_read 0 t_Mr_read_0 := dk_start (by decide +kernel)
theorem a_Mr_read_1 : dk_at b_Mr_read 1 t_Mr_read_1 := dk_go 1 a_Mr_read_0 rfl
theorem a_Mr_read_4 : dk_at b_Mr_read 4 t_Mr_read_4 := dk_go 3 a_Mr_read_1 rfl
theorem a_Mr_read_5 : dk_at b_Mr_read 5 t_Mr_read_5 := dk_go 1 a_Mr_read_4 rfl
theorem a_Mr_read_6 : dk_at b_Mr_read 6 t_Mr_read_6 := dk_go 1 a_Mr_read_5 rfl
theorem a_Mr_read_9 : dk_at b_Mr_read 9 t_Mr_read_9 := dk_go 3 a_Mr_read_6 rfl
theorem a_Mr_read_10 : dk_at b_Mr_read 10 t_Mr_read_10 := dk_go 1 a_Mr_read_9 rfl
theorem a_Mr_read_11 : dk_at b_Mr_read 11 t_Mr_read_11 := dk_go 1 a_Mr_read_10 rfl
theorem a_Mr_read_14 : dk_at b_Mr_read 14 t_Mr_read_14 := dk_go 3 a_Mr_read_11 rfl
theorem a_Mr_read_15 : dk_at b_Mr_read 15 t_Mr_read_15 := dk_go 1 a_Mr_read_14 rfl
theorem a_Mr_read_16 : dk_at b_Mr_read 16 t_Mr_read_16 := dk_go 1 a_Mr_read_15 rfl
theorem a_Mr_read_19 : dk_at b_Mr_read 19 t_Mr_read_19 := dk_go 3 a_Mr_read_16 rfl
theorem a_Mr_read_20 : dk_at b_Mr_read 20 t_Mr_read_20 := dk_go 1 a_Mr_read_19 rfl
theorem a_Mr_read_21 : dk_at b_Mr_read 21 t_Mr_read_21 := dk_go 1 a_Mr_read_20 rfl
theorem a_Mr_read_24 : dk_at b_Mr_read 24 t_Mr_read_24 := dk_go 3 a_Mr_read_21 rfl
theorem a_Mr_read_25 : dk_at b_Mr_read 25 t_Mr_read_25 := dk_go 1 a_Mr_read_24 rfl
theorem a_Mr_read_26 : dk_at b_Mr_read 26 t_Mr_read_26 := dk_go 1 a_Mr_read_25 rfl
theorem a_Mr_read_27 : dk_at b_Mr_read 27 t_Mr_read_27 := dk_go 1 a_Mr_read_26 rfl
theorem a_Mr_read_30 : dk_at b_Mr_read 30 t_Mr_read_30 := dk_go 3 a_Mr_read_27 rfl
theorem a_Mr_read_31 : dk_at b_Mr_read 31 t_Mr_read_31 := dk_go 1 a_Mr_read_30 rfl
theorem a_Mr_read_34 : dk_at b_Mr_read 34 t_Mr_read_34 := dk_go 3 a_Mr_read_31 rfl
theorem a_Mr_read_35 : dk_at b_Mr_read 35 t_Mr_read_35 := dk_go 1 a_Mr_read_34 rfl
theorem a_Mr_read_38 : dk_at b_Mr_read 38 t_Mr_read_38 := dk_go 3 a_Mr_read_35 rfl
theorem a_Mr_read_41 : dk_at b_Mr_read 41 t_Mr_read_41 := dk_go 3 a_Mr_read_38 rfl
theorem a_Mr_read_42 : dk_at b_Mr_read 42 t_Mr_read_42 := dk_go 1 a_Mr_read_41 rfl
theorem a_Mr_read_44 : dk_at b_Mr_read 44 t_Mr_read_44 := dk_go 2 a_Mr_read_42 rfl
theorem a_Mr_read_46 : dk_at b_Mr_read 46 t_Mr_read_46 := dk_go 2 a_Mr_read_44 rfl
theorem a_Mr_read_48 : dk_at b_Mr_read 48 t_Mr_read_48 := dk_go 2 a_Mr_read_46 rfl
theorem a_Mr_read_49 : dk_at b_Mr_read 49 t_Mr_read_49 := dk_go 1 a_Mr_read_48 rfl
theorem a_Mr_read_50 : dk_at b_Mr_read 50 t_Mr_read_50 := dk_go 1 a_Mr_read_49 rfl
theorem a_Mr_read_51 : dk_at b_Mr_read 51 t_Mr_read_51 := dk_go 1 a_Mr_read_50 rfl
theorem a_Mr_read_52 : dk_at b_Mr_read 52 t_Mr_read_52 := dk_go 1 a_Mr_read_51 rfl
theorem a_Mr_read_53 : dk_at b_Mr_read 53 t_Mr_read_53 := dk_go 1 a_Mr_read_52 rfl
theorem a_Mr_read_56 : dk_at b_Mr_read 56 t_Mr_read_56 := dk_go 3 a_Mr_read_53 rfl
theorem a_Mr_read_59 : dk_at b_Mr_read 59 t_Mr_read_59 := dk_go 3 a_Mr_read_56 rfl
theorem a_Mr_read_60 : dk_at b_Mr_read 60 t_Mr_read_60 := dk_go 1 a_Mr_read_59 rfl
theorem a_Mr_read_63 : dk_at b_Mr_read 63 t_Mr_read_63 := dk_go 3 a_Mr_read_60 rfl
theorem a_Mr_read_65 : dk_at b_Mr_read 65 t_Mr_read_65 := dk_go 2 a_Mr_read_63 rfl
theorem a_Mr_read_68 : dk_at b_Mr_read 68 t_Mr_read_68 := dk_go 3 a_Mr_read_65 rfl
theorem a_Mr_read_69 : dk_at b_Mr_read 69 t_Mr_read_69 := dk_go 1 a_Mr_read_68 rfl
theorem a_Mr_read_72 : dk_at b_Mr_read 72 t_Mr_read_72 := dk_go 3 a_Mr_read_69 rfl
theorem a_Mr_read_75 : dk_at b_Mr_read 75 t_Mr_read_75 := dk_go 3 a_Mr_read_72 rfl
theorem a_Mr_read_76 : dk_at b_Mr_read 76 t_Mr_read_76 := dk_go 1 a_Mr_read_75 rfl
theorem a_Mr_read_79 : dk_at b_Mr_read 79 t_Mr_read_79 := dk_go 3 a_Mr_read_76 rfl
theorem a_Mr_read_80 : dk_at b_Mr_read 80 t_Mr_read_80 := dk_go 1 a_Mr_read_79 rfl
theorem a_Mr_read_81 : dk_at b_Mr_read 81 t_Mr_read_81 := dk_go 1 a_Mr_read_80 rfl
theorem a_Mr_read_84 : dk_at b_Mr_read 84 t_Mr_read_84 := dk_go 3 a_Mr_read_81 rfl
theorem a_Mr_read_85 : dk_at b_Mr_read 85 t_Mr_read_85 := dk_go 1 a_Mr_read_84 rfl
theorem a_Mr_read_88 : dk_at b_Mr_read 88 t_Mr_read_88 := dk_go 3 a_Mr_read_85 rfl
theorem a_Mr_read_89 : dk_at b_Mr_read 89 t_Mr_read_89 := dk_go 1 a_Mr_read_88 rfl
theorem a_Mr_read_90 : dk_at b_Mr_read 90 t_Mr_read_90 := dk_go 1 a_Mr_read_89 rfl
theorem a_Mr_read_93 : dk_at b_Mr_read 93 t_Mr_read_93 := dk_go 3 a_Mr_read_90 rfl
theorem a_Mr_read_94 : dk_at b_Mr_read 94 t_Mr_read_94 := dk_go 1 a_Mr_read_93 rfl
theorem a_Mr_read_95 : dk_at b_Mr_read 95 t_Mr_read_95 := dk_go 1 a_Mr_read_94 rfl
theorem a_Mr_read_96 : dk_at b_Mr_read 96 t_Mr_read_96 := dk_go 1 a_Mr_read_95 rfl
theorem a_Mr_read_97 : dk_at b_Mr_read 97 t_Mr_read_97 := dk_go 1 a_Mr_read_96 rfl
theorem a_Mr_read_98 : dk_at b_Mr_read 98 t_Mr_read_98 := dk_go 1 a_Mr_read_97 rfl
theorem a_Mr_read_101 : dk_at b_Mr_read 101 t_Mr_read_101 := dk_go 3 a_Mr_read_98 rfl
theorem a_Mr_read_102 : dk_at b_Mr_read 102 t_Mr_read_102 := dk_go 1 a_Mr_read_101 rfl
theorem a_Mr_read_105 : dk_at b_Mr_read 105 t_Mr_read_105 := dk_go 3 a_Mr_read_102 rfl
theorem a_Mr_read_106 : dk_at b_Mr_read 106 t_Mr_read_106 := dk_go 1 a_Mr_read_105 rfl
theorem a_Mr_read_107 : dk_at b_Mr_read 107 t_Mr_read_107 := dk_go 1 a_Mr_read_106 rfl
theorem a_Mr_read_110 : dk_at b_Mr_read 110 t_Mr_read_110 := dk_go 3 a_Mr_read_107 rfl
theorem a_Mr_read_113 : dk_at b_Mr_read 113 t_Mr_read_113 := dk_go 3 a_Mr_read_110 rfl
theorem a_Mr_read_114 : dk_at b_Mr_read 114 t_Mr_read_114 := dk_go 1 a_Mr_read_113 rfl
theorem a_Mr_read_115 : dk_at b_Mr_read 115 t_Mr_read_115 := dk_go 1 a_Mr_read_114 rfl
theorem a_Mr_read_116 : dk_at b_Mr_read 116 t_Mr_read_116 := dk_go 1 a_Mr_read_115 rfl
theorem a_Mr_read_117 : dk_at b_Mr_read 117 t_Mr_read_117 := dk_go 1 a_Mr_read_116 rfl
theorem a_Mr_read_120 : dk_at b_Mr_read 120 t_Mr_read_120 := dk_go 3 a_Mr_read_117 rfl
theorem a_Mr_read_123 : dk_at b_Mr_read 123 t_Mr_read_123 := dk_go 3 a_Mr_read_120 rfl
theorem a_Mr_read_124 : dk_at b_Mr_read 124 t_Mr_read_124 := dk_go 1 a_Mr_read_123 rfl
theorem a_Mr_read_127 : dk_at b_Mr_read 127 t_Mr_read_127 := dk_go 3 a_Mr_read_124 rfl
theorem a_Mr_read_128 : dk_at b_Mr_read 128 t_Mr_read_128 := dk_go 1 a_Mr_read_127 rfl
theorem a_Mr_read_129 : dk_at b_Mr_read 129 t_Mr_read_129 := dk_go 1 a_Mr_read_128 rfl
theorem a_Mr_read_130 : dk_at b_Mr_read 130 t_Mr_read_130 := dk_go 1 a_Mr_read_129 rfl
theorem a_Mr_read_131 : dk_at b_Mr_read 131 t_Mr_read_131 := dk_go 1 a_Mr_read_130 rfl
theorem a_Mr_read_134 : dk_at b_Mr_read 134 t_Mr_read_134 := dk_go 3 a_Mr_read_131 rfl
theorem a_Mr_read_135 : dk_at b_Mr_read 135 t_Mr_read_135 := dk_go 1 a_Mr_read_134 rfl
theorem a_Mr_read_136 : dk_at b_Mr_read 136 t_Mr_read_136 := dk_go 1 a_Mr_read_135 rfl
theorem a_Mr_read_137 : dk_at b_Mr_read 137 t_Mr_read_137 := dk_go 1 a_Mr_read_136 rfl
theorem a_Mr_read_138 : dk_at b_Mr_read 138 t_Mr_read_138 := dk_go 1 a_Mr_read_137 rfl
theorem a_Mr_read_141 : dk_at b_Mr_read 141 t_Mr_read_141 := dk_go 3 a_Mr_read_138 rfl
theorem a_Mr_read_142 : dk_at b_Mr_read 142 t_Mr_read_142 := dk_go 1 a_Mr_read_141 rfl
theorem a_Mr_read_143 : dk_at b_Mr_read 143 t_Mr_read_143 := dk_go 1 a_Mr_read_142 rfl
theorem a_Mr_read_144 : dk_at b_Mr_read 144 t_Mr_read_144 := dk_go 1 a_Mr_read_143 rfl
theorem a_Mr_read_147 : dk_at b_Mr_read 147 t_Mr_read_147 := dk_go 3 a_Mr_read_144 rfl
theorem a_Mr_read_150 : dk_at b_Mr_read 150 t_Mr_read_150 := dk_go 3 a_Mr_read_147 rfl
theorem a_Mr_read_151 : dk_at b_Mr_read 151 t_Mr_read_151 := dk_go 1 a_Mr_read_150 rfl
theorem a_Mr_read_154 : dk_at b_Mr_read 154 t_Mr_read_154 := dk_go 3 a_Mr_read_151 rfl
theorem d_Mr_read_0 : decode b_Mr_read 0 = .ok (.aload_n 0, 1) := dk_0 a_Mr_read_0 (dko_42 _)
theorem d_Mr_read_1 : decode b_Mr_read 1 = .ok (.invokevirtual 126, 3) := dk_U2 a_Mr_read_1 (dko_182 _) rfl
theorem d_Mr_read_4 : decode b_Mr_read 4 = .ok (.aload_n 0, 1) := dk_0 a_Mr_read_4 (dko_42 _)
theorem d_Mr_read_5 : decode b_Mr_read 5 = .ok (.iconst 0, 1) := dk_0 a_Mr_read_5 (dko_3 _)
theorem d_Mr_read_6 : decode b_Mr_read 6 = .ok (.putfield 59, 3) := dk_U2 a_Mr_read_6 (dko_181 _) rfl
theorem d_Mr_read_9 : decode b_Mr_read 9 = .ok (.aload_n 0, 1) := dk_0 a_Mr_read_9 (dko_42 _)
theorem d_Mr_read_10 : decode b_Mr_read 10 = .ok (.iconst 0, 1) := dk_0 a_Mr_read_10 (dko_3 _)
theorem d_Mr_read_11 : decode b_Mr_read 11 = .ok (.putfield 70, 3) := dk_U2 a_Mr_read_11 (dko_181 _) rfl
theorem d_Mr_read_14 : decode b_Mr_read 14 = .ok (.aload_n 0, 1) := dk_0 a_Mr_read_14 (dko_42 _)
theorem d_Mr_read_15 : decode b_Mr_read 15 = .ok (.iconst 0, 1) := dk_0 a_Mr_read_15 (dko_3 _)
theorem d_Mr_read_16 : decode b_Mr_read 16 = .ok (.putfield 88, 3) := dk_U2 a_Mr_read_16 (dko_181 _) rfl
theorem d_Mr_read_19 : decode b_Mr_read 19 = .ok (.aload_n 0, 1) := dk_0 a_Mr_read_19 (dko_42 _)
theorem d_Mr_read_20 : decode b_Mr_read 20 = .ok (.iconst 0, 1) := dk_0 a_Mr_read_20 (dko_3 _)
theorem d_Mr_read_21 : decode b_Mr_read 21 = .ok (.putfield 120, 3) := dk_U2 a_Mr_read_21 (dko_181 _) rfl
theorem d_Mr_read_24 : decode b_Mr_read 24 = .ok (.iconst 1, 1) := dk_0 a_Mr_read_24 (dko_4 _)
theorem d_Mr_read_25 : decode b_Mr_read 25 = .ok (.istore_n 1, 1) := dk_0 a_Mr_read_25 (dko_60 _)
theorem d_Mr_read_26 : decode b_Mr_read 26 = .ok (.iload_n 1, 1) := dk_0 a_Mr_read_26 (dko_27 _)
theorem d_Mr_read_27 : decode b_Mr_read 27 = .ok (.ifCond .eq 57, 3) := dk_S2 a_Mr_read_27 (dko_153 _) (by decide +kernel)
theorem d_Mr_read_30 : decode b_Mr_read 30 = .ok (.aload_n 0, 1) := dk_0 a_Mr_read_30 (dko_42 _)
theorem d_Mr_read_31 : decode b_Mr_read 31 = .ok (.getfield 70, 3) := dk_U2 a_Mr_read_31 (dko_180 _) rfl
theorem d_Mr_read_34 : decode b_Mr_read 34 = .ok (.aload_n 0, 1) := dk_0 a_Mr_read_34 (dko_42 _)
theorem d_Mr_read_35 : decode b_Mr_read 35 = .ok (.getfield 63, 3) := dk_U2 a_Mr_read_35 (dko_180 _) rfl
theorem d_Mr_read_38 : decode b_Mr_read 38 = .ok (.if_icmp .ge 46, 3) := dk_S2 a_Mr_read_38 (dko_162 _) (by decide +kernel)
theorem d_Mr_read_84 : decode b_Mr_read 84 = .ok (.iload_n 1, 1) := dk_0 a_Mr_read_84 (dko_27 _)
theorem d_Mr_read_85 : decode b_Mr_read 85 = .ok (.ifCond .ne 10, 3) := dk_S2 a_Mr_read_85 (dko_154 _) (by decide +kernel)
theorem d_Mr_read_95 : decode b_Mr_read 95 = .ok (.aload_n 0, 1) := dk_0 a_Mr_read_95 (dko_42 _)
theorem d_Mr_read_96 : decode b_Mr_read 96 = .ok (.iconst 1, 1) := dk_0 a_Mr_read_96 (dko_4 _)
theorem d_Mr_read_97 : decode b_Mr_read 97 = .ok (.aload_n 0, 1) := dk_0 a_Mr_read_97 (dko_42 _)
theorem d_Mr_read_98 : decode b_Mr_read 98 = .ok (.getfield 85, 3) := dk_U2 a_Mr_read_98 (dko_180 _) rfl
theorem d_Mr_read_101 : decode b_Mr_read 101 = .ok (.isub, 1) := dk_0 a_Mr_read_101 (dko_100 _)
theorem d_Mr_read_102 : decode b_Mr_read 102 = .ok (.putfield 85, 3) := dk_U2 a_Mr_read_102 (dko_181 _) rfl
theorem d_Mr_read_105 : decode b_Mr_read 105 = .ok (.aload_n 0, 1) := dk_0 a_Mr_read_105 (dko_42 _)
theorem d_Mr_read_106 : decode b_Mr_read 106 = .ok (.aload_n 0, 1) := dk_0 a_Mr_read_106 (dko_42 _)
theorem d_Mr_read_107 : decode b_Mr_read 107 = .ok (.getfield 120, 3) := dk_U2 a_Mr_read_107 (dko_180 _) rfl
theorem d_Mr_read_110 : decode b_Mr_read 110 = .ok (.putfield 133, 3) := dk_U2 a_Mr_read_110 (dko_181 _) rfl
theorem d_Mr_read_113 : decode b_Mr_read 113 = .ok (.iconst 0, 1) := dk_0 a_Mr_read_113 (dko_3 _)
theorem d_Mr_read_114 : decode b_Mr_read 114 = .ok (.istore_n 2, 1) := dk_0 a_Mr_read_114 (dko_61 _)
theorem d_Mr_read_115 : decode b_Mr_read 115 = .ok (.iload_n 2, 1) := dk_0 a_Mr_read_115 (dko_28 _)
theorem d_Mr_read_116 : decode b_Mr_read 116 = .ok (.aload_n 0, 1) := dk_0 a_Mr_read_116 (dko_42 _)
theorem d_Mr_read_117 : decode b_Mr_read 117 = .ok (.getfield 133, 3) := dk_U2 a_Mr_read_117 (dko_180 _) rfl
theorem d_Mr_read_120 : decode b_Mr_read 120 = .ok (.if_icmp .ge 30, 3) := dk_S2 a_Mr_read_120 (dko_162 _) (by decide +kernel)
theorem d_Mr_read_150 : decode b_Mr_read 150 = .ok (.aload_n 0, 1) := dk_0 a_Mr_read_150 (dko_42 _)
theorem d_Mr_read_151 : decode b_Mr_read 151 = .ok (.getfield 133, 3) := dk_U2 a_Mr_read_151 (dko_180 _) rfl
theorem d_Mr_read_154 : decode b_Mr_read 154 = .ok (.ireturn, 1) := dk_0 a_Mr_read_154 (dko_172 _)
set_option maxHeartbeats 4000000 in
set_option maxRecDepth 100000 in
theorem c_Mr_read (l : Launch) (dC : Nat → ClassId) (dI : Nat → Nat → Nat) (cI cB cZ cJ : ClassId) (oR : Nat) (fr : List Value) (hr_size : fx fr 1 (.int 0)) (hr_words : fx fr 4 (.int 0)) (hr_next : fx fr 5 (.int 0)) (hr_nodes : fx fr 11 (.int 0)) (hr_half : fx fr 12 (.int 0)) (hr_made : fx fr 13 (.int 0)) (hr_rows : fx fr 20 (.int 0)) (sz : Nat) : Met l y_Mr_read w_Mr_read ({ frames := 1, cells := 0, slots := 0, locals := 22 }) (va_Pc [.ref oR] (PW dC dI cI cB cZ cJ [(oR, .inr (14, fr))] sz)) (va_Qi (fun (r : Int32) (_ : Unit) => r = 0) (fun _ _ => True) (va_A [(oR, .inr (14, fr))] sz)) 0 0 (va_A [(oR, .inr (14, fr))] sz) := by
  refine Met.ofW (cc := b_Mr_read) (maxL := 3) (ret := (some .int)) (by decide) rfl ?_
  intro p e s m args below meth c s₁ B hml hv
  obtain ⟨rfl, hsz, hP, hK, hD⟩ := hv
  have hx := B.exec
  have hb := B.bytes
  have hr := B.returns
  have hts := atoms_spec (ws := w_Mr_read) B.pre
  have hown : s.vm.findClass R_Mr = some m.cls := findClass_of_methodNamed B.named
  have hlocks := B.notSynchronized
  subst hsz
  have hD := hD.self (sz := s.heap.size)
  generalize hAe : va_A [(oR, .inr (14, fr))] s.heap.size = A at hD ⊢
  have hA : ∀ q : Nat, s.heap.size ≤ q → A q := fun q h => by rw [← hAe]; exact Or.inr h
  have hS : va_S A s.heap s.heap [] := va_S.rf
  have hP : va_P (dC, dI) classes [(oR, .inr (14, fr))] s.heap := hP
  have hl := lv_entry ([.ref oR]) (n := 3) (Nat.le_of_ble_eq_true rfl)
  rw [lg_entry_eq]
  generalize (lg_sl ([.ref oR]) ++ List.replicate (3 - (lg_sl ([.ref oR])).length) Slot.unset).toArray = ls at hl ⊢
  have hl : lv_has ls 3 [(0, .ref oR)] := hl
  refine lv_aload_n hx hb d_Mr_read_0 rfl (lv_at hl 0 rfl) ?_
  have hPc := hP.sub (ws' := [(oR, .inr (14, fr))]) [0] rfl
  have hDc := hD.sub (ws' := [(oR, .inr (14, fr))]) [0] (by decide) rfl
  have hFc := va_free (wc := [(oR, .inr (14, fr))]) hD hS hA [0] rfl
  refine va_callv (va_runV (C := R_Mr) (As := []) (rest := []) ⟨hx, hb, hml, hown, hts⟩ (c_Mr_cut l dC dI cI cB cZ cJ oR fr hr_size hr_words hr_next hr_nodes hr_half hr_made hr_rows s.heap.size) (cwV 0 hts (tb_V mw_2119 mw_2121 sl_97 mw_20 mw_2122) rfl rfl rfl ⟨rfl, by decide +kernel, by decide +kernel, by decide +kernel⟩ ⟨(Nat.le_of_ble_eq_true rfl), (Nat.le_of_ble_eq_true rfl)⟩) ⟨pw_blind, va_recv (q := (R_Mr, F_Mr, 25)) hK.1 hP (ci := 14) (q0 := 0) rfl rfl, pw_pre hPc hK hDc⟩ rfl rfl hl.1 rfl (lv_room (Nat.le_of_ble_eq_true rfl)) d_Mr_read_1 ⟨(Nat.le_of_ble_eq_true rfl), (Nat.le_of_ble_eq_true rfl)⟩) hS (fun q _ h => hFc q h) hFc (fun u t H locs ht hvm hw hB hz1 hk1 hS => ?_)
  obtain ⟨s1_1_oR, k1_1_oR_1, k1_1_oR_4, k1_1_oR_5, k1_1_oR_11, k1_1_oR_12, k1_1_oR_13, k1_1_oR_20, hP1, hD1⟩ := hB
  rw [ht] at hP1
  obtain ⟨hP, hD⟩ := va_join (wr := []) (w1 := [(oR, .inr (14, s1_1_oR))]) hP hD [0] [] rfl rfl (by decide) (by decide) hk1 hFc hP1 hD1
  have hP : va_P (dC, dI) classes [(oR, .inr (14, s1_1_oR))] H := hP
  have hD : va_D A [(oR, .inr (14, s1_1_oR))] := hD
  refine lv_aload_n hx hb d_Mr_read_4 rfl (lv_at hl 0 rfl) ?_
  refine lv_iconst (v := 0) hx hb d_Mr_read_5 (by decide) ?_
  refine va_put (D := (dC, dI)) (ci := 14) (v := .int 0) (ty := .int) (C := R_Mr) (T := F_Mr) (N := 25) hx hb hts (fun w h => List.mem_cons_of_mem _ (in_Mr w h)) t_Mr t_Mr_ok n_Mr hown hK.1 hP hD hS 0 rfl rfl 1 (by decide) (hts _ (List.mem_cons_of_mem _ mw_1713)) (fun _ h9 => h9) rfl (by decide +kernel) rfl rfl (st_lt k1_1_oR_1) d_Mr_read_6 (fun H locs hP hD hS => ?_)
  have g6_1 : fx (s1_1_oR.set 1 (.int 0)) 1 (.int 0) := (st_eq k1_1_oR_1)
  have g6_4 : fx (s1_1_oR.set 1 (.int 0)) 4 (.int 0) := (st_ne k1_1_oR_4 (by decide))
  have g6_5 : fx (s1_1_oR.set 1 (.int 0)) 5 (.int 0) := (st_ne k1_1_oR_5 (by decide))
  have g6_11 : fx (s1_1_oR.set 1 (.int 0)) 11 (.int 0) := (st_ne k1_1_oR_11 (by decide))
  have g6_12 : fx (s1_1_oR.set 1 (.int 0)) 12 (.int 0) := (st_ne k1_1_oR_12 (by decide))
  have g6_13 : fx (s1_1_oR.set 1 (.int 0)) 13 (.int 0) := (st_ne k1_1_oR_13 (by decide))
  have g6_20 : fx (s1_1_oR.set 1 (.int 0)) 20 (.int 0) := (st_ne k1_1_oR_20 (by decide))
  have hP : va_P (dC, dI) classes [(oR, .inr (14, (s1_1_oR.set 1 (.int 0))))] H := hP
  have hD : va_D A [(oR, .inr (14, (s1_1_oR.set 1 (.int 0))))] := hD
  refine lv_aload_n hx hb d_Mr_read_9 rfl (lv_at hl 0 rfl) ?_
  refine lv_iconst (v := 0) hx hb d_Mr_read_10 (by decide) ?_
  refine va_put (D := (dC, dI)) (ci := 14) (v := .int 0) (ty := .int) (C := R_Mr) (T := F_Mr) (N := 25) hx hb hts (fun w h => List.mem_cons_of_mem _ (in_Mr w h)) t_Mr t_Mr_ok n_Mr hown hK.1 hP hD hS 0 rfl rfl 5 (by decide) (hts _ (List.mem_cons_of_mem _ mw_1717)) (fun _ h9 => h9) rfl (by decide +kernel) rfl rfl (st_lt g6_5) d_Mr_read_11 (fun H locs hP hD hS => ?_)
  have g11_1 : fx ((s1_1_oR.set 1 (.int 0)).set 5 (.int 0)) 1 (.int 0) := (st_ne g6_1 (by decide))
  have g11_4 : fx ((s1_1_oR.set 1 (.int 0)).set 5 (.int 0)) 4 (.int 0) := (st_ne g6_4 (by decide))
  have g11_5 : fx ((s1_1_oR.set 1 (.int 0)).set 5 (.int 0)) 5 (.int 0) := (st_eq g6_5)
  have g11_11 : fx ((s1_1_oR.set 1 (.int 0)).set 5 (.int 0)) 11 (.int 0) := (st_ne g6_11 (by decide))
  have g11_12 : fx ((s1_1_oR.set 1 (.int 0)).set 5 (.int 0)) 12 (.int 0) := (st_ne g6_12 (by decide))
  have g11_13 : fx ((s1_1_oR.set 1 (.int 0)).set 5 (.int 0)) 13 (.int 0) := (st_ne g6_13 (by decide))
  have g11_20 : fx ((s1_1_oR.set 1 (.int 0)).set 5 (.int 0)) 20 (.int 0) := (st_ne g6_20 (by decide))
  have hP : va_P (dC, dI) classes [(oR, .inr (14, ((s1_1_oR.set 1 (.int 0)).set 5 (.int 0))))] H := hP
  have hD : va_D A [(oR, .inr (14, ((s1_1_oR.set 1 (.int 0)).set 5 (.int 0))))] := hD
  refine lv_aload_n hx hb d_Mr_read_14 rfl (lv_at hl 0 rfl) ?_
  refine lv_iconst (v := 0) hx hb d_Mr_read_15 (by decide) ?_
  refine va_put (D := (dC, dI)) (ci := 14) (v := .int 0) (ty := .int) (C := R_Mr) (T := F_Mr) (N := 25) hx hb hts (fun w h => List.mem_cons_of_mem _ (in_Mr w h)) t_Mr t_Mr_ok n_Mr hown hK.1 hP hD hS 0 rfl rfl 11 (by decide) (hts _ (List.mem_cons_of_mem _ mw_1723)) (fun _ h9 => h9) rfl (by decide +kernel) rfl rfl (st_lt g11_11) d_Mr_read_16 (fun H locs hP hD hS => ?_)
  have g16_1 : fx (((s1_1_oR.set 1 (.int 0)).set 5 (.int 0)).set 11 (.int 0)) 1 (.int 0) := (st_ne g11_1 (by decide))
  have g16_4 : fx (((s1_1_oR.set 1 (.int 0)).set 5 (.int 0)).set 11 (.int 0)) 4 (.int 0) := (st_ne g11_4 (by decide))
  have g16_5 : fx (((s1_1_oR.set 1 (.int 0)).set 5 (.int 0)).set 11 (.int 0)) 5 (.int 0) := (st_ne g11_5 (by decide))
  have g16_11 : fx (((s1_1_oR.set 1 (.int 0)).set 5 (.int 0)).set 11 (.int 0)) 11 (.int 0) := (st_eq g11_11)
  have g16_12 : fx (((s1_1_oR.set 1 (.int 0)).set 5 (.int 0)).set 11 (.int 0)) 12 (.int 0) := (st_ne g11_12 (by decide))
  have g16_13 : fx (((s1_1_oR.set 1 (.int 0)).set 5 (.int 0)).set 11 (.int 0)) 13 (.int 0) := (st_ne g11_13 (by decide))
  have g16_20 : fx (((s1_1_oR.set 1 (.int 0)).set 5 (.int 0)).set 11 (.int 0)) 20 (.int 0) := (st_ne g11_20 (by decide))
  have hP : va_P (dC, dI) classes [(oR, .inr (14, (((s1_1_oR.set 1 (.int 0)).set 5 (.int 0)).set 11 (.int 0))))] H := hP
  have hD : va_D A [(oR, .inr (14, (((s1_1_oR.set 1 (.int 0)).set 5 (.int 0)).set 11 (.int 0))))] := hD
  refine lv_aload_n hx hb d_Mr_read_19 rfl (lv_at hl 0 rfl) ?_
  refine lv_iconst (v := 0) hx hb d_Mr_read_20 (by decide) ?_
  refine va_put (D := (dC, dI)) (ci := 14) (v := .int 0) (ty := .int) (C := R_Mr) (T := F_Mr) (N := 25) hx hb hts (fun w h => List.mem_cons_of_mem _ (in_Mr w h)) t_Mr t_Mr_ok n_Mr hown hK.1 hP hD hS 0 rfl rfl 13 (by decide) (hts _ (List.mem_cons_of_mem _ mw_1725)) (fun _ h9 => h9) rfl (by decide +kernel) rfl rfl (st_lt g16_13) d_Mr_read_21 (fun H locs hP hD hS => ?_)
  have g21_1 : fx ((((s1_1_oR.set 1 (.int 0)).set 5 (.int 0)).set 11 (.int 0)).set 13 (.int 0)) 1 (.int 0) := (st_ne g16_1 (by decide))
  have g21_4 : fx ((((s1_1_oR.set 1 (.int 0)).set 5 (.int 0)).set 11 (.int 0)).set 13 (.int 0)) 4 (.int 0) := (st_ne g16_4 (by decide))
  have g21_5 : fx ((((s1_1_oR.set 1 (.int 0)).set 5 (.int 0)).set 11 (.int 0)).set 13 (.int 0)) 5 (.int 0) := (st_ne g16_5 (by decide))
  have g21_11 : fx ((((s1_1_oR.set 1 (.int 0)).set 5 (.int 0)).set 11 (.int 0)).set 13 (.int 0)) 11 (.int 0) := (st_ne g16_11 (by decide))
  have g21_12 : fx ((((s1_1_oR.set 1 (.int 0)).set 5 (.int 0)).set 11 (.int 0)).set 13 (.int 0)) 12 (.int 0) := (st_ne g16_12 (by decide))
  have g21_13 : fx ((((s1_1_oR.set 1 (.int 0)).set 5 (.int 0)).set 11 (.int 0)).set 13 (.int 0)) 13 (.int 0) := (st_eq g16_13)
  have g21_20 : fx ((((s1_1_oR.set 1 (.int 0)).set 5 (.int 0)).set 11 (.int 0)).set 13 (.int 0)) 20 (.int 0) := (st_ne g16_20 (by decide))
  have hP : va_P (dC, dI) classes [(oR, .inr (14, ((((s1_1_oR.set 1 (.int 0)).set 5 (.int 0)).set 11 (.int 0)).set 13 (.int 0))))] H := hP
  have hD : va_D A [(oR, .inr (14, ((((s1_1_oR.set 1 (.int 0)).set 5 (.int 0)).set 11 (.int 0)).set 13 (.int 0))))] := hD
  refine lv_iconst (v := 1) hx hb d_Mr_read_24 (by decide) ?_
  refine lv_istore_n hx hb d_Mr_read_25 rfl hl (by decide) rfl (fun ls hl => ?_)
  have hl : lv_has ls 3 [(1, .int 1), (0, .ref oR)] := hl
  refine lv_iload_n hx hb d_Mr_read_26 rfl (lv_at hl 0 rfl) ?_
  refine lv_if_eq (tgt := 84) hx hb d_Mr_read_27 (by decide) (fun h => absurd h (by decide)) (fun _ => ?_)
  refine lv_aload_n hx hb d_Mr_read_30 rfl (lv_at hl 1 rfl) ?_
  refine va_get (D := (dC, dI)) (ci := 14) (v := .int 0) (C := R_Mr) (T := F_Mr) (N := 25) hx hb hts (fun w h => List.mem_cons_of_mem _ (in_Mr w h)) hown hK.1 hP 0 rfl rfl 5 (by decide) (hts _ (List.mem_cons_of_mem _ mw_1717)) (fun _ h9 => h9) g21_5 d_Mr_read_31 ?_
  refine lv_aload_n hx hb d_Mr_read_34 rfl (lv_at hl 1 rfl) ?_
  refine va_get (D := (dC, dI)) (ci := 14) (v := .int 0) (C := R_Mr) (T := F_Mr) (N := 25) hx hb hts (fun w h => List.mem_cons_of_mem _ (in_Mr w h)) hown hK.1 hP 0 rfl rfl 4 (by decide) (hts _ (List.mem_cons_of_mem _ mw_1716)) (fun _ h9 => h9) g21_4 d_Mr_read_35 ?_
  refine lv_icmp_ge (tgt := 84) hx hb d_Mr_read_38 (by decide) (fun _ => ?_) (fun h => absurd (by decide) h)
  refine lv_iload_n hx hb d_Mr_read_84 rfl (lv_at hl 0 rfl) ?_
  refine lv_if_ne (tgt := 95) hx hb d_Mr_read_85 (by decide) (fun _ => ?_) (fun h => absurd h (by decide))
  refine lv_aload_n hx hb d_Mr_read_95 rfl (lv_at hl 1 rfl) ?_
  refine lv_iconst (v := 1) hx hb d_Mr_read_96 (by decide) ?_
  refine lv_aload_n hx hb d_Mr_read_97 rfl (lv_at hl 1 rfl) ?_
  refine va_get (D := (dC, dI)) (ci := 14) (v := .int 0) (C := R_Mr) (T := F_Mr) (N := 25) hx hb hts (fun w h => List.mem_cons_of_mem _ (in_Mr w h)) hown hK.1 hP 0 rfl rfl 12 (by decide) (hts _ (List.mem_cons_of_mem _ mw_1724)) (fun _ h9 => h9) g21_12 d_Mr_read_98 ?_
  refine lv_isub hx hb d_Mr_read_101 ?_
  refine lv_topi (fun x0 e0 => ?_)
  obtain rfl : x0 = 1 := e0.trans (by decide)
  refine va_put (D := (dC, dI)) (ci := 14) (v := .int 1) (ty := .int) (C := R_Mr) (T := F_Mr) (N := 25) hx hb hts (fun w h => List.mem_cons_of_mem _ (in_Mr w h)) t_Mr t_Mr_ok n_Mr hown hK.1 hP hD hS 0 rfl rfl 12 (by decide) (hts _ (List.mem_cons_of_mem _ mw_1724)) (fun _ h9 => h9) rfl (by decide +kernel) rfl rfl (st_lt g21_12) d_Mr_read_102 (fun H locs hP hD hS => ?_)
  have g102_1 : fx (((((s1_1_oR.set 1 (.int 0)).set 5 (.int 0)).set 11 (.int 0)).set 13 (.int 0)).set 12 (.int 1)) 1 (.int 0) := (st_ne g21_1 (by decide))
  have g102_4 : fx (((((s1_1_oR.set 1 (.int 0)).set 5 (.int 0)).set 11 (.int 0)).set 13 (.int 0)).set 12 (.int 1)) 4 (.int 0) := (st_ne g21_4 (by decide))
  have g102_5 : fx (((((s1_1_oR.set 1 (.int 0)).set 5 (.int 0)).set 11 (.int 0)).set 13 (.int 0)).set 12 (.int 1)) 5 (.int 0) := (st_ne g21_5 (by decide))
  have g102_11 : fx (((((s1_1_oR.set 1 (.int 0)).set 5 (.int 0)).set 11 (.int 0)).set 13 (.int 0)).set 12 (.int 1)) 11 (.int 0) := (st_ne g21_11 (by decide))
  have g102_12 : fx (((((s1_1_oR.set 1 (.int 0)).set 5 (.int 0)).set 11 (.int 0)).set 13 (.int 0)).set 12 (.int 1)) 12 (.int 1) := (st_eq g21_12)
  have g102_13 : fx (((((s1_1_oR.set 1 (.int 0)).set 5 (.int 0)).set 11 (.int 0)).set 13 (.int 0)).set 12 (.int 1)) 13 (.int 0) := (st_ne g21_13 (by decide))
  have g102_20 : fx (((((s1_1_oR.set 1 (.int 0)).set 5 (.int 0)).set 11 (.int 0)).set 13 (.int 0)).set 12 (.int 1)) 20 (.int 0) := (st_ne g21_20 (by decide))
  have hP : va_P (dC, dI) classes [(oR, .inr (14, (((((s1_1_oR.set 1 (.int 0)).set 5 (.int 0)).set 11 (.int 0)).set 13 (.int 0)).set 12 (.int 1))))] H := hP
  have hD : va_D A [(oR, .inr (14, (((((s1_1_oR.set 1 (.int 0)).set 5 (.int 0)).set 11 (.int 0)).set 13 (.int 0)).set 12 (.int 1))))] := hD
  refine lv_aload_n hx hb d_Mr_read_105 rfl (lv_at hl 1 rfl) ?_
  refine lv_aload_n hx hb d_Mr_read_106 rfl (lv_at hl 1 rfl) ?_
  refine va_get (D := (dC, dI)) (ci := 14) (v := .int 0) (C := R_Mr) (T := F_Mr) (N := 25) hx hb hts (fun w h => List.mem_cons_of_mem _ (in_Mr w h)) hown hK.1 hP 0 rfl rfl 13 (by decide) (hts _ (List.mem_cons_of_mem _ mw_1725)) (fun _ h9 => h9) g102_13 d_Mr_read_107 ?_
  refine va_put (D := (dC, dI)) (ci := 14) (v := .int 0) (ty := .int) (C := R_Mr) (T := F_Mr) (N := 25) hx hb hts (fun w h => List.mem_cons_of_mem _ (in_Mr w h)) t_Mr t_Mr_ok n_Mr hown hK.1 hP hD hS 0 rfl rfl 20 (by decide) (hts _ (List.mem_cons_of_mem _ mw_1732)) (fun _ h9 => h9) rfl (by decide +kernel) rfl rfl (st_lt g102_20) d_Mr_read_110 (fun H locs hP hD hS => ?_)
  have g110_1 : fx ((((((s1_1_oR.set 1 (.int 0)).set 5 (.int 0)).set 11 (.int 0)).set 13 (.int 0)).set 12 (.int 1)).set 20 (.int 0)) 1 (.int 0) := (st_ne g102_1 (by decide))
  have g110_4 : fx ((((((s1_1_oR.set 1 (.int 0)).set 5 (.int 0)).set 11 (.int 0)).set 13 (.int 0)).set 12 (.int 1)).set 20 (.int 0)) 4 (.int 0) := (st_ne g102_4 (by decide))
  have g110_5 : fx ((((((s1_1_oR.set 1 (.int 0)).set 5 (.int 0)).set 11 (.int 0)).set 13 (.int 0)).set 12 (.int 1)).set 20 (.int 0)) 5 (.int 0) := (st_ne g102_5 (by decide))
  have g110_11 : fx ((((((s1_1_oR.set 1 (.int 0)).set 5 (.int 0)).set 11 (.int 0)).set 13 (.int 0)).set 12 (.int 1)).set 20 (.int 0)) 11 (.int 0) := (st_ne g102_11 (by decide))
  have g110_12 : fx ((((((s1_1_oR.set 1 (.int 0)).set 5 (.int 0)).set 11 (.int 0)).set 13 (.int 0)).set 12 (.int 1)).set 20 (.int 0)) 12 (.int 1) := (st_ne g102_12 (by decide))
  have g110_13 : fx ((((((s1_1_oR.set 1 (.int 0)).set 5 (.int 0)).set 11 (.int 0)).set 13 (.int 0)).set 12 (.int 1)).set 20 (.int 0)) 13 (.int 0) := (st_ne g102_13 (by decide))
  have g110_20 : fx ((((((s1_1_oR.set 1 (.int 0)).set 5 (.int 0)).set 11 (.int 0)).set 13 (.int 0)).set 12 (.int 1)).set 20 (.int 0)) 20 (.int 0) := (st_eq g102_20)
  have hP : va_P (dC, dI) classes [(oR, .inr (14, ((((((s1_1_oR.set 1 (.int 0)).set 5 (.int 0)).set 11 (.int 0)).set 13 (.int 0)).set 12 (.int 1)).set 20 (.int 0))))] H := hP
  have hD : va_D A [(oR, .inr (14, ((((((s1_1_oR.set 1 (.int 0)).set 5 (.int 0)).set 11 (.int 0)).set 13 (.int 0)).set 12 (.int 1)).set 20 (.int 0))))] := hD
  refine lv_iconst (v := 0) hx hb d_Mr_read_113 (by decide) ?_
  refine lv_istore_n hx hb d_Mr_read_114 rfl hl (by decide) rfl (fun ls hl => ?_)
  have hl : lv_has ls 3 [(2, .int 0), (1, .int 1), (0, .ref oR)] := hl
  refine lv_iload_n hx hb d_Mr_read_115 rfl (lv_at hl 0 rfl) ?_
  refine lv_aload_n hx hb d_Mr_read_116 rfl (lv_at hl 2 rfl) ?_
  refine va_get (D := (dC, dI)) (ci := 14) (v := .int 0) (C := R_Mr) (T := F_Mr) (N := 25) hx hb hts (fun w h => List.mem_cons_of_mem _ (in_Mr w h)) hown hK.1 hP 0 rfl rfl 20 (by decide) (hts _ (List.mem_cons_of_mem _ mw_1732)) (fun _ h9 => h9) g110_20 d_Mr_read_117 ?_
  refine lv_icmp_ge (tgt := 150) hx hb d_Mr_read_120 (by decide) (fun _ => ?_) (fun h => absurd (by decide) h)
  refine lv_aload_n hx hb d_Mr_read_150 rfl (lv_at hl 2 rfl) ?_
  refine va_get (D := (dC, dI)) (ci := 14) (v := .int 0) (C := R_Mr) (T := F_Mr) (N := 25) hx hb hts (fun w h => List.mem_cons_of_mem _ (in_Mr w h)) hown hK.1 hP 0 rfl rfl 20 (by decide) (hts _ (List.mem_cons_of_mem _ mw_1732)) (fun _ h9 => h9) g110_20 d_Mr_read_151 ?_
  exact W.iret (v := 0) hx hb hr (fun t ht hW => ⟨⟨_, (), rfl, (rfl), trivial⟩, hS.F ht⟩) hS.2.2 d_Mr_read_154
abbrev t_Mo_forget_26 : List UInt8 := 177 :: []
abbrev t_Mo_forget_23 : List UInt8 := 167 :: 255 :: 235 :: t_Mo_forget_26
abbrev t_Mo_forget_20 : List UInt8 := 132 :: 2 :: 1 :: t_Mo_forget_23
abbrev t_Mo_forget_19 : List UInt8 := 79 :: t_Mo_forget_20
abbrev t_Mo_forget_18 : List UInt8 := 2 :: t_Mo_forget_19
abbrev t_Mo_forget_17 : List UInt8 := 96 :: t_Mo_forget_18
abbrev t_Mo_forget_16 : List UInt8 := 28 :: t_Mo_forget_17
abbrev t_Mo_forget_15 : List UInt8 := 104 :: t_Mo_forget_16
abbrev t_Mo_forget_14 : List UInt8 := 27 :: t_Mo_forget_15
abbrev t_Mo_forget_12 : List UInt8 := 16 :: 6 :: t_Mo_forget_14
abbrev t_Mo_forget_9 : List UInt8 := 180 :: 0 :: 61 :: t_Mo_forget_12
abbrev t_Mo_forget_8 : List UInt8 := 42 :: t_Mo_forget_9
abbrev t_Mo_forget_5 : List UInt8 := 162 :: 0 :: 21 :: t_Mo_forget_8
abbrev t_Mo_forget_3 : List UInt8 := 16 :: 6 :: t_Mo_forget_5
abbrev t_Mo_forget_2 : List UInt8 := 28 :: t_Mo_forget_3
abbrev t_Mo_forget_1 : List UInt8 := 61 :: t_Mo_forget_2
abbrev t_Mo_forget_0 : List UInt8 := 3 :: t_Mo_forget_1
theorem a_Mo_forget_0 : dk_at b_Mo_forget 0 t_Mo_forget_0 := dk_start (by decide +kernel)
theorem a_Mo_forget_1 : dk_at b_Mo_forget 1 t_Mo_forget_1 := dk_go 1 a_Mo_forget_0 rfl
theorem a_Mo_forget_2 : dk_at b_Mo_forget 2 t_Mo_forget_2 := dk_go 1 a_Mo_forget_1 rfl
theorem a_Mo_forget_3 : dk_at b_Mo_forget 3 t_Mo_forget_3 := dk_go 1 a_Mo_forget_2 rfl
theorem a_Mo_forget_5 : dk_at b_Mo_forget 5 t_Mo_forget_5 := dk_go 2 a_Mo_forget_3 rfl
theorem a_Mo_forget_8 : dk_at b_Mo_forget 8 t_Mo_forget_8 := dk_go 3 a_Mo_forget_5 rfl
theorem a_Mo_forget_9 : dk_at b_Mo_forget 9 t_Mo_forget_9 := dk_go 1 a_Mo_forget_8 rfl
theorem a_Mo_forget_12 : dk_at b_Mo_forget 12 t_Mo_forget_12 := dk_go 3 a_Mo_forget_9 rfl
theorem a_Mo_forget_14 : dk_at b_Mo_forget 14 t_Mo_forget_14 := dk_go 2 a_Mo_forget_12 rfl
theorem a_Mo_forget_15 : dk_at b_Mo_forget 15 t_Mo_forget_15 := dk_go 1 a_Mo_forget_14 rfl
theorem a_Mo_forget_16 : dk_at b_Mo_forget 16 t_Mo_forget_16 := dk_go 1 a_Mo_forget_15 rfl
theorem a_Mo_forget_17 : dk_at b_Mo_forget 17 t_Mo_forget_17 := dk_go 1 a_Mo_forget_16 rfl
theorem a_Mo_forget_18 : dk_at b_Mo_forget 18 t_Mo_forget_18 := dk_go 1 a_Mo_forget_17 rfl
theorem a_Mo_forget_19 : dk_at b_Mo_forget 19 t_Mo_forget_19 := dk_go 1 a_Mo_forget_18 rfl
theorem a_Mo_forget_20 : dk_at b_Mo_forget 20 t_Mo_forget_20 := dk_go 1 a_Mo_forget_19 rfl
theorem a_Mo_forget_23 : dk_at b_Mo_forget 23 t_Mo_forget_23 := dk_go 3 a_Mo_forget_20 rfl
theorem a_Mo_forget_26 : dk_at b_Mo_forget 26 t_Mo_forget_26 := dk_go 3 a_Mo_forget_23 rfl
theorem d_Mo_forget_0 : decode b_Mo_forget 0 = .ok (.iconst 0, 1) := dk_0 a_Mo_forget_0 (dko_3 _)
theorem d_Mo_forget_1 : decode b_Mo_forget 1 = .ok (.istore_n 2, 1) := dk_0 a_Mo_forget_1 (dko_61 _)
theorem d_Mo_forget_2 : decode b_Mo_forget 2 = .ok (.iload_n 2, 1) := dk_0 a_Mo_forget_2 (dko_28 _)
theorem d_Mo_forget_3 : decode b_Mo_forget 3 = .ok (.bipush 6, 2) := dk_S1 a_Mo_forget_3 (dko_16 _) (by decide +kernel)
theorem d_Mo_forget_5 : decode b_Mo_forget 5 = .ok (.if_icmp .ge 21, 3) := dk_S2 a_Mo_forget_5 (dko_162 _) (by decide +kernel)
theorem d_Mo_forget_8 : decode b_Mo_forget 8 = .ok (.aload_n 0, 1) := dk_0 a_Mo_forget_8 (dko_42 _)
theorem d_Mo_forget_9 : decode b_Mo_forget 9 = .ok (.getfield 61, 3) := dk_U2 a_Mo_forget_9 (dko_180 _) rfl
theorem d_Mo_forget_12 : decode b_Mo_forget 12 = .ok (.bipush 6, 2) := dk_S1 a_Mo_forget_12 (dko_16 _) (by decide +kernel)
theorem d_Mo_forget_14 : decode b_Mo_forget 14 = .ok (.iload_n 1, 1) := dk_0 a_Mo_forget_14 (dko_27 _)
theorem d_Mo_forget_15 : decode b_Mo_forget 15 = .ok (.imul, 1) := dk_0 a_Mo_forget_15 (dko_104 _)
theorem d_Mo_forget_16 : decode b_Mo_forget 16 = .ok (.iload_n 2, 1) := dk_0 a_Mo_forget_16 (dko_28 _)
theorem d_Mo_forget_17 : decode b_Mo_forget 17 = .ok (.iadd, 1) := dk_0 a_Mo_forget_17 (dko_96 _)
theorem d_Mo_forget_18 : decode b_Mo_forget 18 = .ok (.iconst (-1), 1) := dk_0 a_Mo_forget_18 (dko_2 _)
theorem d_Mo_forget_19 : decode b_Mo_forget 19 = .ok (.iastore, 1) := dk_0 a_Mo_forget_19 (dko_79 _)
theorem d_Mo_forget_20 : decode b_Mo_forget 20 = .ok (.iinc 2 1, 3) := dk_US a_Mo_forget_20 (dko_132 _) (by decide +kernel)
theorem d_Mo_forget_23 : decode b_Mo_forget 23 = .ok (.goto (-21), 3) := dk_S2 a_Mo_forget_23 (dko_167 _) (by decide +kernel)
theorem d_Mo_forget_26 : decode b_Mo_forget 26 = .ok (.return_, 1) := dk_0 a_Mo_forget_26 (dko_177 _)
set_option maxHeartbeats 4000000 in
set_option maxRecDepth 100000 in
theorem c_Mo_forget (l : Launch) (dC : Nat → ClassId) (dI : Nat → Nat → Nat) (cI cB cZ cJ : ClassId) (xx : Int32) (hxx0 : ¬ xx < 0) (hxx1 : ¬ 43 < xx) (oM : Nat) (am_cleaned : Nat) (z_am_cleaned : Nat → Int32) (fm : List Value) (hm_cleaned : fx fm 17 (.ref am_cleaned)) (sz : Nat) : Met l y_Mo_forget w_Mo_forget ({ frames := 0, cells := 0, slots := 0, locals := 0 }) (va_Pc [.ref oM, .int xx] (PW dC dI cI cB cZ cJ [(oM, .inr (12, fm)), (am_cleaned, .inl (cI, 264, .inl z_am_cleaned))] sz)) (va_Qv (fun _ : Unit => True) (fun (_ : Unit) (t : State) => ∃ (n_am_cleaned : Nat → Int32), fx fm 17 (.ref am_cleaned) ∧ va_P (dC, dI) classes [(oM, .inr (12, fm)), (am_cleaned, .inl (cI, 264, .inl n_am_cleaned))] t.heap ∧ va_D (va_A [(oM, .inr (12, fm)), (am_cleaned, .inl (cI, 264, .inl z_am_cleaned))] sz) [(oM, .inr (12, fm)), (am_cleaned, .inl (cI, 264, .inl n_am_cleaned))]) (va_A [(oM, .inr (12, fm)), (am_cleaned, .inl (cI, 264, .inl z_am_cleaned))] sz)) 0 0 (va_A [(oM, .inr (12, fm)), (am_cleaned, .inl (cI, 264, .inl z_am_cleaned))] sz) := by
  refine Met.ofW (cc := b_Mo_forget) (maxL := 3) (ret := none) (by decide) rfl ?_
  intro p e s m args below meth c s₁ B hml hv
  obtain ⟨rfl, hsz, hP, hK, hD⟩ := hv
  have hx := B.exec
  have hb := B.bytes
  have hr := B.returns
  have hts := atoms_spec (ws := w_Mo_forget) B.pre
  have hown : s.vm.findClass R_Mo = some m.cls := findClass_of_methodNamed B.named
  have hlocks := B.notSynchronized
  subst hsz
  have hD := hD.self (sz := s.heap.size)
  generalize hAe : va_A [(oM, .inr (12, fm)), (am_cleaned, .inl (cI, 264, .inl z_am_cleaned))] s.heap.size = A at hD ⊢
  have hA : ∀ q : Nat, s.heap.size ≤ q → A q := fun q h => by rw [← hAe]; exact Or.inr h
  have hS : va_S A s.heap s.heap [] := va_S.rf
  have hP : va_P (dC, dI) classes [(oM, .inr (12, fm)), (am_cleaned, .inl (cI, 264, .inl z_am_cleaned))] s.heap := hP
  have hl := lv_entry ([.ref oM, .int xx]) (n := 3) (Nat.le_of_ble_eq_true rfl)
  rw [lg_entry_eq]
  generalize (lg_sl ([.ref oM, .int xx]) ++ List.replicate (3 - (lg_sl ([.ref oM, .int xx])).length) Slot.unset).toArray = ls at hl ⊢
  have hl : lv_has ls 3 [(0, .ref oM), (1, .int xx)] := hl
  refine lv_iconst (v := 0) hx hb d_Mo_forget_0 (by decide) ?_
  refine lv_istore_n hx hb d_Mo_forget_1 rfl hl (by decide) rfl (fun ls hl => ?_)
  have hl : lv_has ls 3 [(2, .int 0), (0, .ref oM), (1, .int xx)] := hl
  refine lv_iload_n hx hb d_Mo_forget_2 rfl (lv_at hl 0 rfl) ?_
  refine lv_bipush (v := 6) hx hb d_Mo_forget_3 (by decide) ?_
  refine lv_icmp_ge (tgt := 26) hx hb d_Mo_forget_5 (by decide) (fun h => absurd h (by decide)) (fun _ => ?_)
  refine lv_aload_n hx hb d_Mo_forget_8 rfl (lv_at hl 1 rfl) ?_
  refine va_get (D := (dC, dI)) (ci := 12) (v := .ref am_cleaned) (C := R_Mo) (T := F_Mo) (N := 87) hx hb hts (fun w h => List.mem_cons_of_mem _ (in_Mo w h)) hown hK.1 hP 0 rfl rfl 17 (by decide) (hts _ (List.mem_cons_of_mem _ mw_1811)) (fun _ h9 => h9) hm_cleaned d_Mo_forget_9 ?_
  refine lv_bipush (v := 6) hx hb d_Mo_forget_12 (by decide) ?_
  refine lv_iload_n hx hb d_Mo_forget_14 rfl (lv_at hl 2 rfl) ?_
  refine lv_imul hx hb d_Mo_forget_15 ?_
  refine lv_iload_n hx hb d_Mo_forget_16 rfl (lv_at hl 0 rfl) ?_
  refine lv_iadd hx hb d_Mo_forget_17 ?_
  refine lv_iconst (v := (-1)) hx hb d_Mo_forget_18 (by decide) ?_
  refine va_iast hx hb hK.1 hP hD hS 1 0 rfl rfl (ir_6 hxx0 hxx1 0 (by decide)) d_Mo_forget_19 (fun H locs hP hD hS => ?_)
  have hP : va_P (dC, dI) classes [(oM, .inr (12, fm)), (am_cleaned, .inl (cI, 264, .inl ((upd z_am_cleaned (((6 * xx) + 0) : Int32).toNatClampNeg (-1)))))] H := hP
  have hD : va_D A [(oM, .inr (12, fm)), (am_cleaned, .inl (cI, 264, .inl ((upd z_am_cleaned (((6 * xx) + 0) : Int32).toNatClampNeg (-1)))))] := hD
  generalize (upd z_am_cleaned (((6 * xx) + 0) : Int32).toNatClampNeg (-1)) = f19_1 at hP hD
  refine lv_iinc (k := 0) (v := 1) hx hb d_Mo_forget_20 hl rfl (by first | rfl | decide | exact nI_1 i | exact pv_1 j hj) (by decide) rfl (fun ls hl => ?_)
  have hl : lv_has ls 3 [(2, .int 1), (0, .ref oM), (1, .int xx)] := hl
  refine lv_goto (tgt := 2) hx hb d_Mo_forget_23 (by decide) ?_
  refine lv_iload_n hx hb d_Mo_forget_2 rfl (lv_at hl 0 rfl) ?_
  refine lv_bipush (v := 6) hx hb d_Mo_forget_3 (by decide) ?_
  refine lv_icmp_ge (tgt := 26) hx hb d_Mo_forget_5 (by decide) (fun h => absurd h (by decide)) (fun _ => ?_)
  refine lv_aload_n hx hb d_Mo_forget_8 rfl (lv_at hl 1 rfl) ?_
  refine va_get (D := (dC, dI)) (ci := 12) (v := .ref am_cleaned) (C := R_Mo) (T := F_Mo) (N := 87) hx hb hts (fun w h => List.mem_cons_of_mem _ (in_Mo w h)) hown hK.1 hP 0 rfl rfl 17 (by decide) (hts _ (List.mem_cons_of_mem _ mw_1811)) (fun _ h9 => h9) hm_cleaned d_Mo_forget_9 ?_
  refine lv_bipush (v := 6) hx hb d_Mo_forget_12 (by decide) ?_
  refine lv_iload_n hx hb d_Mo_forget_14 rfl (lv_at hl 2 rfl) ?_
  refine lv_imul hx hb d_Mo_forget_15 ?_
  refine lv_iload_n hx hb d_Mo_forget_16 rfl (lv_at hl 0 rfl) ?_
  refine lv_iadd hx hb d_Mo_forget_17 ?_
  refine lv_iconst (v := (-1)) hx hb d_Mo_forget_18 (by decide) ?_
  refine va_iast hx hb hK.1 hP hD hS 1 0 rfl rfl (ir_6 hxx0 hxx1 1 (by decide)) d_Mo_forget_19 (fun H locs hP hD hS => ?_)
  have hP : va_P (dC, dI) classes [(oM, .inr (12, fm)), (am_cleaned, .inl (cI, 264, .inl ((upd f19_1 (((6 * xx) + 1) : Int32).toNatClampNeg (-1)))))] H := hP
  have hD : va_D A [(oM, .inr (12, fm)), (am_cleaned, .inl (cI, 264, .inl ((upd f19_1 (((6 * xx) + 1) : Int32).toNatClampNeg (-1)))))] := hD
  generalize (upd f19_1 (((6 * xx) + 1) : Int32).toNatClampNeg (-1)) = f19_2 at hP hD
  refine lv_iinc (k := 0) (v := 2) hx hb d_Mo_forget_20 hl rfl (by first | rfl | decide | exact nI_1 i | exact pv_1 j hj) (by decide) rfl (fun ls hl => ?_)
  have hl : lv_has ls 3 [(2, .int 2), (0, .ref oM), (1, .int xx)] := hl
  refine lv_goto (tgt := 2) hx hb d_Mo_forget_23 (by decide) ?_
  refine lv_iload_n hx hb d_Mo_forget_2 rfl (lv_at hl 0 rfl) ?_
  refine lv_bipush (v := 6) hx hb d_Mo_forget_3 (by decide) ?_
  refine lv_icmp_ge (tgt := 26) hx hb d_Mo_forget_5 (by decide) (fun h => absurd h (by decide)) (fun _ => ?_)
  refine lv_aload_n hx hb d_Mo_forget_8 rfl (lv_at hl 1 rfl) ?_
  refine va_get (D := (dC, dI)) (ci := 12) (v := .ref am_cleaned) (C := R_Mo) (T := F_Mo) (N := 87) hx hb hts (fun w h => List.mem_cons_of_mem _ (in_Mo w h)) hown hK.1 hP 0 rfl rfl 17 (by decide) (hts _ (List.mem_cons_of_mem _ mw_1811)) (fun _ h9 => h9) hm_cleaned d_Mo_forget_9 ?_
  refine lv_bipush (v := 6) hx hb d_Mo_forget_12 (by decide) ?_
  refine lv_iload_n hx hb d_Mo_forget_14 rfl (lv_at hl 2 rfl) ?_
  refine lv_imul hx hb d_Mo_forget_15 ?_
  refine lv_iload_n hx hb d_Mo_forget_16 rfl (lv_at hl 0 rfl) ?_
  refine lv_iadd hx hb d_Mo_forget_17 ?_
  refine lv_iconst (v := (-1)) hx hb d_Mo_forget_18 (by decide) ?_
  refine va_iast hx hb hK.1 hP hD hS 1 0 rfl rfl (ir_6 hxx0 hxx1 2 (by decide)) d_Mo_forget_19 (fun H locs hP hD hS => ?_)
  have hP : va_P (dC, dI) classes [(oM, .inr (12, fm)), (am_cleaned, .inl (cI, 264, .inl ((upd f19_2 (((6 * xx) + 2) : Int32).toNatClampNeg (-1)))))] H := hP
  have hD : va_D A [(oM, .inr (12, fm)), (am_cleaned, .inl (cI, 264, .inl ((upd f19_2 (((6 * xx) + 2) : Int32).toNatClampNeg (-1)))))] := hD
  generalize (upd f19_2 (((6 * xx) + 2) : Int32).toNatClampNeg (-1)) = f19_3 at hP hD
  refine lv_iinc (k := 0) (v := 3) hx hb d_Mo_forget_20 hl rfl (by first | rfl | decide | exact nI_1 i | exact pv_1 j hj) (by decide) rfl (fun ls hl => ?_)
  have hl : lv_has ls 3 [(2, .int 3), (0, .ref oM), (1, .int xx)] := hl
  refine lv_goto (tgt := 2) hx hb d_Mo_forget_23 (by decide) ?_
  refine lv_iload_n hx hb d_Mo_forget_2 rfl (lv_at hl 0 rfl) ?_
  refine lv_bipush (v := 6) hx hb d_Mo_forget_3 (by decide) ?_
  refine lv_icmp_ge (tgt := 26) hx hb d_Mo_forget_5 (by decide) (fun h => absurd h (by decide)) (fun _ => ?_)
  refine lv_aload_n hx hb d_Mo_forget_8 rfl (lv_at hl 1 rfl) ?_
  refine va_get (D := (dC, dI)) (ci := 12) (v := .ref am_cleaned) (C := R_Mo) (T := F_Mo) (N := 87) hx hb hts (fun w h => List.mem_cons_of_mem _ (in_Mo w h)) hown hK.1 hP 0 rfl rfl 17 (by decide) (hts _ (List.mem_cons_of_mem _ mw_1811)) (fun _ h9 => h9) hm_cleaned d_Mo_forget_9 ?_
  refine lv_bipush (v := 6) hx hb d_Mo_forget_12 (by decide) ?_
  refine lv_iload_n hx hb d_Mo_forget_14 rfl (lv_at hl 2 rfl) ?_
  refine lv_imul hx hb d_Mo_forget_15 ?_
  refine lv_iload_n hx hb d_Mo_forget_16 rfl (lv_at hl 0 rfl) ?_
  refine lv_iadd hx hb d_Mo_forget_17 ?_
  refine lv_iconst (v := (-1)) hx hb d_Mo_forget_18 (by decide) ?_
  refine va_iast hx hb hK.1 hP hD hS 1 0 rfl rfl (ir_6 hxx0 hxx1 3 (by decide)) d_Mo_forget_19 (fun H locs hP hD hS => ?_)
  have hP : va_P (dC, dI) classes [(oM, .inr (12, fm)), (am_cleaned, .inl (cI, 264, .inl ((upd f19_3 (((6 * xx) + 3) : Int32).toNatClampNeg (-1)))))] H := hP
  have hD : va_D A [(oM, .inr (12, fm)), (am_cleaned, .inl (cI, 264, .inl ((upd f19_3 (((6 * xx) + 3) : Int32).toNatClampNeg (-1)))))] := hD
  generalize (upd f19_3 (((6 * xx) + 3) : Int32).toNatClampNeg (-1)) = f19_4 at hP hD
  refine lv_iinc (k := 0) (v := 4) hx hb d_Mo_forget_20 hl rfl (by first | rfl | decide | exact nI_1 i | exact pv_1 j hj) (by decide) rfl (fun ls hl => ?_)
  have hl : lv_has ls 3 [(2, .int 4), (0, .ref oM), (1, .int xx)] := hl
  refine lv_goto (tgt := 2) hx hb d_Mo_forget_23 (by decide) ?_
  refine lv_iload_n hx hb d_Mo_forget_2 rfl (lv_at hl 0 rfl) ?_
  refine lv_bipush (v := 6) hx hb d_Mo_forget_3 (by decide) ?_
  refine lv_icmp_ge (tgt := 26) hx hb d_Mo_forget_5 (by decide) (fun h => absurd h (by decide)) (fun _ => ?_)
  refine lv_aload_n hx hb d_Mo_forget_8 rfl (lv_at hl 1 rfl) ?_
  refine va_get (D := (dC, dI)) (ci := 12) (v := .ref am_cleaned) (C := R_Mo) (T := F_Mo) (N := 87) hx hb hts (fun w h => List.mem_cons_of_mem _ (in_Mo w h)) hown hK.1 hP 0 rfl rfl 17 (by decide) (hts _ (List.mem_cons_of_mem _ mw_1811)) (fun _ h9 => h9) hm_cleaned d_Mo_forget_9 ?_
  refine lv_bipush (v := 6) hx hb d_Mo_forget_12 (by decide) ?_
  refine lv_iload_n hx hb d_Mo_forget_14 rfl (lv_at hl 2 rfl) ?_
  refine lv_imul hx hb d_Mo_forget_15 ?_
  refine lv_iload_n hx hb d_Mo_forget_16 rfl (lv_at hl 0 rfl) ?_
  refine lv_iadd hx hb d_Mo_forget_17 ?_
  refine lv_iconst (v := (-1)) hx hb d_Mo_forget_18 (by decide) ?_
  refine va_iast hx hb hK.1 hP hD hS 1 0 rfl rfl (ir_6 hxx0 hxx1 4 (by decide)) d_Mo_forget_19 (fun H locs hP hD hS => ?_)
  have hP : va_P (dC, dI) classes [(oM, .inr (12, fm)), (am_cleaned, .inl (cI, 264, .inl ((upd f19_4 (((6 * xx) + 4) : Int32).toNatClampNeg (-1)))))] H := hP
  have hD : va_D A [(oM, .inr (12, fm)), (am_cleaned, .inl (cI, 264, .inl ((upd f19_4 (((6 * xx) + 4) : Int32).toNatClampNeg (-1)))))] := hD
  generalize (upd f19_4 (((6 * xx) + 4) : Int32).toNatClampNeg (-1)) = f19_5 at hP hD
  refine lv_iinc (k := 0) (v := 5) hx hb d_Mo_forget_20 hl rfl (by first | rfl | decide | exact nI_1 i | exact pv_1 j hj) (by decide) rfl (fun ls hl => ?_)
  have hl : lv_has ls 3 [(2, .int 5), (0, .ref oM), (1, .int xx)] := hl
  refine lv_goto (tgt := 2) hx hb d_Mo_forget_23 (by decide) ?_
  refine lv_iload_n hx hb d_Mo_forget_2 rfl (lv_at hl 0 rfl) ?_
  refine lv_bipush (v := 6) hx hb d_Mo_forget_3 (by decide) ?_
  refine lv_icmp_ge (tgt := 26) hx hb d_Mo_forget_5 (by decide) (fun h => absurd h (by decide)) (fun _ => ?_)
  refine lv_aload_n hx hb d_Mo_forget_8 rfl (lv_at hl 1 rfl) ?_
  refine va_get (D := (dC, dI)) (ci := 12) (v := .ref am_cleaned) (C := R_Mo) (T := F_Mo) (N := 87) hx hb hts (fun w h => List.mem_cons_of_mem _ (in_Mo w h)) hown hK.1 hP 0 rfl rfl 17 (by decide) (hts _ (List.mem_cons_of_mem _ mw_1811)) (fun _ h9 => h9) hm_cleaned d_Mo_forget_9 ?_
  refine lv_bipush (v := 6) hx hb d_Mo_forget_12 (by decide) ?_
  refine lv_iload_n hx hb d_Mo_forget_14 rfl (lv_at hl 2 rfl) ?_
  refine lv_imul hx hb d_Mo_forget_15 ?_
  refine lv_iload_n hx hb d_Mo_forget_16 rfl (lv_at hl 0 rfl) ?_
  refine lv_iadd hx hb d_Mo_forget_17 ?_
  refine lv_iconst (v := (-1)) hx hb d_Mo_forget_18 (by decide) ?_
  refine va_iast hx hb hK.1 hP hD hS 1 0 rfl rfl (ir_6 hxx0 hxx1 5 (by decide)) d_Mo_forget_19 (fun H locs hP hD hS => ?_)
  have hP : va_P (dC, dI) classes [(oM, .inr (12, fm)), (am_cleaned, .inl (cI, 264, .inl ((upd f19_5 (((6 * xx) + 5) : Int32).toNatClampNeg (-1)))))] H := hP
  have hD : va_D A [(oM, .inr (12, fm)), (am_cleaned, .inl (cI, 264, .inl ((upd f19_5 (((6 * xx) + 5) : Int32).toNatClampNeg (-1)))))] := hD
  generalize (upd f19_5 (((6 * xx) + 5) : Int32).toNatClampNeg (-1)) = f19_6 at hP hD
  refine lv_iinc (k := 0) (v := 6) hx hb d_Mo_forget_20 hl rfl (by first | rfl | decide | exact nI_1 i | exact pv_1 j hj) (by decide) rfl (fun ls hl => ?_)
  have hl : lv_has ls 3 [(2, .int 6), (0, .ref oM), (1, .int xx)] := hl
  refine lv_goto (tgt := 2) hx hb d_Mo_forget_23 (by decide) ?_
  refine lv_iload_n hx hb d_Mo_forget_2 rfl (lv_at hl 0 rfl) ?_
  refine lv_bipush (v := 6) hx hb d_Mo_forget_3 (by decide) ?_
  refine lv_icmp_ge (tgt := 26) hx hb d_Mo_forget_5 (by decide) (fun _ => ?_) (fun h => absurd (by decide) h)
  exact W.vret hx hb hr (fun t ht hW => ⟨⟨(), rfl, trivial, ⟨f19_6, hm_cleaned, by rw [ht]; exact hP, hD⟩⟩, hS.F ht⟩) hS.2.2 d_Mo_forget_26
abbrev t_Mo_readPlant_154 : List UInt8 := 172 :: []
abbrev t_Mo_readPlant_151 : List UInt8 := 180 :: 1 :: 22 :: t_Mo_readPlant_154
abbrev t_Mo_readPlant_150 : List UInt8 := 42 :: t_Mo_readPlant_151
abbrev t_Mo_readPlant_147 : List UInt8 := 167 :: 255 :: 235 :: t_Mo_readPlant_150
abbrev t_Mo_readPlant_144 : List UInt8 := 132 :: 1 :: 1 :: t_Mo_readPlant_147
abbrev t_Mo_readPlant_141 : List UInt8 := 182 :: 1 :: 35 :: t_Mo_readPlant_144
abbrev t_Mo_readPlant_140 : List UInt8 := 27 :: t_Mo_readPlant_141
abbrev t_Mo_readPlant_139 : List UInt8 := 42 :: t_Mo_readPlant_140
abbrev t_Mo_readPlant_138 : List UInt8 := 79 :: t_Mo_readPlant_139
abbrev t_Mo_readPlant_137 : List UInt8 := 3 :: t_Mo_readPlant_138
abbrev t_Mo_readPlant_136 : List UInt8 := 27 :: t_Mo_readPlant_137
abbrev t_Mo_readPlant_133 : List UInt8 := 180 :: 0 :: 58 :: t_Mo_readPlant_136
abbrev t_Mo_readPlant_132 : List UInt8 := 42 :: t_Mo_readPlant_133
abbrev t_Mo_readPlant_129 : List UInt8 := 162 :: 0 :: 21 :: t_Mo_readPlant_132
abbrev t_Mo_readPlant_127 : List UInt8 := 16 :: 44 :: t_Mo_readPlant_129
abbrev t_Mo_readPlant_126 : List UInt8 := 27 :: t_Mo_readPlant_127
abbrev t_Mo_readPlant_125 : List UInt8 := 60 :: t_Mo_readPlant_126
abbrev t_Mo_readPlant_124 : List UInt8 := 3 :: t_Mo_readPlant_125
abbrev t_Mo_readPlant_121 : List UInt8 := 167 :: 255 :: 225 :: t_Mo_readPlant_124
abbrev t_Mo_readPlant_118 : List UInt8 := 181 :: 0 :: 234 :: t_Mo_readPlant_121
abbrev t_Mo_readPlant_117 : List UInt8 := 96 :: t_Mo_readPlant_118
abbrev t_Mo_readPlant_116 : List UInt8 := 4 :: t_Mo_readPlant_117
abbrev t_Mo_readPlant_113 : List UInt8 := 180 :: 0 :: 234 :: t_Mo_readPlant_116
abbrev t_Mo_readPlant_112 : List UInt8 := 89 :: t_Mo_readPlant_113
abbrev t_Mo_readPlant_111 : List UInt8 := 42 :: t_Mo_readPlant_112
abbrev t_Mo_readPlant_108 : List UInt8 := 182 :: 1 :: 31 :: t_Mo_readPlant_111
abbrev t_Mo_readPlant_107 : List UInt8 := 27 :: t_Mo_readPlant_108
abbrev t_Mo_readPlant_106 : List UInt8 := 42 :: t_Mo_readPlant_107
abbrev t_Mo_readPlant_105 : List UInt8 := 60 :: t_Mo_readPlant_106
abbrev t_Mo_readPlant_102 : List UInt8 := 182 :: 1 :: 16 :: t_Mo_readPlant_105
abbrev t_Mo_readPlant_101 : List UInt8 := 42 :: t_Mo_readPlant_102
abbrev t_Mo_readPlant_98 : List UInt8 := 162 :: 0 :: 26 :: t_Mo_readPlant_101
abbrev t_Mo_readPlant_95 : List UInt8 := 180 :: 0 :: 215 :: t_Mo_readPlant_98
abbrev t_Mo_readPlant_94 : List UInt8 := 42 :: t_Mo_readPlant_95
abbrev t_Mo_readPlant_91 : List UInt8 := 180 :: 0 :: 234 :: t_Mo_readPlant_94
abbrev t_Mo_readPlant_90 : List UInt8 := 42 :: t_Mo_readPlant_91
abbrev t_Mo_readPlant_87 : List UInt8 := 181 :: 0 :: 234 :: t_Mo_readPlant_90
abbrev t_Mo_readPlant_86 : List UInt8 := 3 :: t_Mo_readPlant_87
abbrev t_Mo_readPlant_85 : List UInt8 := 42 :: t_Mo_readPlant_86
abbrev t_Mo_readPlant_82 : List UInt8 := 181 :: 0 :: 162 :: t_Mo_readPlant_85
abbrev t_Mo_readPlant_81 : List UInt8 := 7 :: t_Mo_readPlant_82
abbrev t_Mo_readPlant_80 : List UInt8 := 42 :: t_Mo_readPlant_81
abbrev t_Mo_readPlant_77 : List UInt8 := 181 :: 1 :: 28 :: t_Mo_readPlant_80
abbrev t_Mo_readPlant_76 : List UInt8 := 3 :: t_Mo_readPlant_77
abbrev t_Mo_readPlant_75 : List UInt8 := 42 :: t_Mo_readPlant_76
abbrev t_Mo_readPlant_72 : List UInt8 := 181 :: 1 :: 25 :: t_Mo_readPlant_75
abbrev t_Mo_readPlant_71 : List UInt8 := 3 :: t_Mo_readPlant_72
abbrev t_Mo_readPlant_70 : List UInt8 := 42 :: t_Mo_readPlant_71
abbrev t_Mo_readPlant_67 : List UInt8 := 181 :: 1 :: 22 :: t_Mo_readPlant_70
abbrev t_Mo_readPlant_66 : List UInt8 := 3 :: t_Mo_readPlant_67
abbrev t_Mo_readPlant_65 : List UInt8 := 42 :: t_Mo_readPlant_66
abbrev t_Mo_readPlant_62 : List UInt8 := 167 :: 255 :: 209 :: t_Mo_readPlant_65
abbrev t_Mo_readPlant_59 : List UInt8 := 181 :: 0 :: 234 :: t_Mo_readPlant_62
abbrev t_Mo_readPlant_58 : List UInt8 := 96 :: t_Mo_readPlant_59
abbrev t_Mo_readPlant_57 : List UInt8 := 4 :: t_Mo_readPlant_58
abbrev t_Mo_readPlant_54 : List UInt8 := 180 :: 0 :: 234 :: t_Mo_readPlant_57
abbrev t_Mo_readPlant_53 : List UInt8 := 89 :: t_Mo_readPlant_54
abbrev t_Mo_readPlant_52 : List UInt8 := 42 :: t_Mo_readPlant_53
abbrev t_Mo_readPlant_51 : List UInt8 := 172 :: t_Mo_readPlant_52
abbrev t_Mo_readPlant_50 : List UInt8 := 100 :: t_Mo_readPlant_51
abbrev t_Mo_readPlant_47 : List UInt8 := 180 :: 0 :: 234 :: t_Mo_readPlant_50
abbrev t_Mo_readPlant_46 : List UInt8 := 42 :: t_Mo_readPlant_47
abbrev t_Mo_readPlant_44 : List UInt8 := 16 :: 253 :: t_Mo_readPlant_46
abbrev t_Mo_readPlant_41 : List UInt8 := 154 :: 0 :: 11 :: t_Mo_readPlant_44
abbrev t_Mo_readPlant_38 : List UInt8 := 182 :: 1 :: 19 :: t_Mo_readPlant_41
abbrev t_Mo_readPlant_37 : List UInt8 := 27 :: t_Mo_readPlant_38
abbrev t_Mo_readPlant_36 : List UInt8 := 42 :: t_Mo_readPlant_37
abbrev t_Mo_readPlant_33 : List UInt8 := 159 :: 0 :: 11 :: t_Mo_readPlant_36
abbrev t_Mo_readPlant_32 : List UInt8 := 2 :: t_Mo_readPlant_33
abbrev t_Mo_readPlant_31 : List UInt8 := 27 :: t_Mo_readPlant_32
abbrev t_Mo_readPlant_30 : List UInt8 := 60 :: t_Mo_readPlant_31
abbrev t_Mo_readPlant_27 : List UInt8 := 182 :: 1 :: 16 :: t_Mo_readPlant_30
abbrev t_Mo_readPlant_26 : List UInt8 := 42 :: t_Mo_readPlant_27
abbrev t_Mo_readPlant_23 : List UInt8 := 162 :: 0 :: 42 :: t_Mo_readPlant_26
abbrev t_Mo_readPlant_20 : List UInt8 := 180 :: 0 :: 215 :: t_Mo_readPlant_23
abbrev t_Mo_readPlant_19 : List UInt8 := 42 :: t_Mo_readPlant_20
abbrev t_Mo_readPlant_16 : List UInt8 := 180 :: 0 :: 234 :: t_Mo_readPlant_19
abbrev t_Mo_readPlant_15 : List UInt8 := 42 :: t_Mo_readPlant_16
abbrev t_Mo_readPlant_12 : List UInt8 := 181 :: 1 :: 9 :: t_Mo_readPlant_15
abbrev t_Mo_readPlant_11 : List UInt8 := 3 :: t_Mo_readPlant_12
abbrev t_Mo_readPlant_10 : List UInt8 := 42 :: t_Mo_readPlant_11
abbrev t_Mo_readPlant_7 : List UInt8 := 181 :: 1 :: 5 :: t_Mo_readPlant_10
abbrev t_Mo_readPlant_6 : List UInt8 := 3 :: t_Mo_readPlant_7
abbrev t_Mo_readPlant_5 : List UInt8 := 42 :: t_Mo_readPlant_6
abbrev t_Mo_readPlant_2 : List UInt8 := 181 :: 0 :: 234 :: t_Mo_readPlant_5
abbrev t_Mo_readPlant_1 : List UInt8 := 3 :: t_Mo_readPlant_2
abbrev t_Mo_readPlant_0 : List UInt8 := 42 :: t_Mo_readPlant_1
theorem a_Mo_readPlant_0 : dk_at b_Mo_readPlant 0 t_Mo_readPlant_0 := dk_start (by decide +kernel)
theorem a_Mo_readPlant_1 : dk_at b_Mo_readPlant 1 t_Mo_readPlant_1 := dk_go 1 a_Mo_readPlant_0 rfl
theorem a_Mo_readPlant_2 : dk_at b_Mo_readPlant 2 t_Mo_readPlant_2 := dk_go 1 a_Mo_readPlant_1 rfl
theorem a_Mo_readPlant_5 : dk_at b_Mo_readPlant 5 t_Mo_readPlant_5 := dk_go 3 a_Mo_readPlant_2 rfl
theorem a_Mo_readPlant_6 : dk_at b_Mo_readPlant 6 t_Mo_readPlant_6 := dk_go 1 a_Mo_readPlant_5 rfl
theorem a_Mo_readPlant_7 : dk_at b_Mo_readPlant 7 t_Mo_readPlant_7 := dk_go 1 a_Mo_readPlant_6 rfl
theorem a_Mo_readPlant_10 : dk_at b_Mo_readPlant 10 t_Mo_readPlant_10 := dk_go 3 a_Mo_readPlant_7 rfl
theorem a_Mo_readPlant_11 : dk_at b_Mo_readPlant 11 t_Mo_readPlant_11 := dk_go 1 a_Mo_readPlant_10 rfl
theorem a_Mo_readPlant_12 : dk_at b_Mo_readPlant 12 t_Mo_readPlant_12 := dk_go 1 a_Mo_readPlant_11 rfl
theorem a_Mo_readPlant_15 : dk_at b_Mo_readPlant 15 t_Mo_readPlant_15 := dk_go 3 a_Mo_readPlant_12 rfl
theorem a_Mo_readPlant_16 : dk_at b_Mo_readPlant 16 t_Mo_readPlant_16 := dk_go 1 a_Mo_readPlant_15 rfl
theorem a_Mo_readPlant_19 : dk_at b_Mo_readPlant 19 t_Mo_readPlant_19 := dk_go 3 a_Mo_readPlant_16 rfl
theorem a_Mo_readPlant_20 : dk_at b_Mo_readPlant 20 t_Mo_readPlant_20 := dk_go 1 a_Mo_readPlant_19 rfl
theorem a_Mo_readPlant_23 : dk_at b_Mo_readPlant 23 t_Mo_readPlant_23 := dk_go 3 a_Mo_readPlant_20 rfl
theorem a_Mo_readPlant_26 : dk_at b_Mo_readPlant 26 t_Mo_readPlant_26 := dk_go 3 a_Mo_readPlant_23 rfl
theorem a_Mo_readPlant_27 : dk_at b_Mo_readPlant 27 t_Mo_readPlant_27 := dk_go 1 a_Mo_readPlant_26 rfl
theorem a_Mo_readPlant_30 : dk_at b_Mo_readPlant 30 t_Mo_readPlant_30 := dk_go 3 a_Mo_readPlant_27 rfl
theorem a_Mo_readPlant_31 : dk_at b_Mo_readPlant 31 t_Mo_readPlant_31 := dk_go 1 a_Mo_readPlant_30 rfl
theorem a_Mo_readPlant_32 : dk_at b_Mo_readPlant 32 t_Mo_readPlant_32 := dk_go 1 a_Mo_readPlant_31 rfl
theorem a_Mo_readPlant_33 : dk_at b_Mo_readPlant 33 t_Mo_readPlant_33 := dk_go 1 a_Mo_readPlant_32 rfl
theorem a_Mo_readPlant_36 : dk_at b_Mo_readPlant 36 t_Mo_readPlant_36 := dk_go 3 a_Mo_readPlant_33 rfl
theorem a_Mo_readPlant_37 : dk_at b_Mo_readPlant 37 t_Mo_readPlant_37 := dk_go 1 a_Mo_readPlant_36 rfl
theorem a_Mo_readPlant_38 : dk_at b_Mo_readPlant 38 t_Mo_readPlant_38 := dk_go 1 a_Mo_readPlant_37 rfl
theorem a_Mo_readPlant_41 : dk_at b_Mo_readPlant 41 t_Mo_readPlant_41 := dk_go 3 a_Mo_readPlant_38 rfl
theorem a_Mo_readPlant_44 : dk_at b_Mo_readPlant 44 t_Mo_readPlant_44 := dk_go 3 a_Mo_readPlant_41 rfl
theorem a_Mo_readPlant_46 : dk_at b_Mo_readPlant 46 t_Mo_readPlant_46 := dk_go 2 a_Mo_readPlant_44 rfl
theorem a_Mo_readPlant_47 : dk_at b_Mo_readPlant 47 t_Mo_readPlant_47 := dk_go 1 a_Mo_readPlant_46 rfl
theorem a_Mo_readPlant_50 : dk_at b_Mo_readPlant 50 t_Mo_readPlant_50 := dk_go 3 a_Mo_readPlant_47 rfl
theorem a_Mo_readPlant_51 : dk_at b_Mo_readPlant 51 t_Mo_readPlant_51 := dk_go 1 a_Mo_readPlant_50 rfl
theorem a_Mo_readPlant_52 : dk_at b_Mo_readPlant 52 t_Mo_readPlant_52 := dk_go 1 a_Mo_readPlant_51 rfl
theorem a_Mo_readPlant_53 : dk_at b_Mo_readPlant 53 t_Mo_readPlant_53 := dk_go 1 a_Mo_readPlant_52 rfl
theorem a_Mo_readPlant_54 : dk_at b_Mo_readPlant 54 t_Mo_readPlant_54 := dk_go 1 a_Mo_readPlant_53 rfl
theorem a_Mo_readPlant_57 : dk_at b_Mo_readPlant 57 t_Mo_readPlant_57 := dk_go 3 a_Mo_readPlant_54 rfl
theorem a_Mo_readPlant_58 : dk_at b_Mo_readPlant 58 t_Mo_readPlant_58 := dk_go 1 a_Mo_readPlant_57 rfl
theorem a_Mo_readPlant_59 : dk_at b_Mo_readPlant 59 t_Mo_readPlant_59 := dk_go 1 a_Mo_readPlant_58 rfl
theorem a_Mo_readPlant_62 : dk_at b_Mo_readPlant 62 t_Mo_readPlant_62 := dk_go 3 a_Mo_readPlant_59 rfl
theorem a_Mo_readPlant_65 : dk_at b_Mo_readPlant 65 t_Mo_readPlant_65 := dk_go 3 a_Mo_readPlant_62 rfl
theorem a_Mo_readPlant_66 : dk_at b_Mo_readPlant 66 t_Mo_readPlant_66 := dk_go 1 a_Mo_readPlant_65 rfl
theorem a_Mo_readPlant_67 : dk_at b_Mo_readPlant 67 t_Mo_readPlant_67 := dk_go 1 a_Mo_readPlant_66 rfl
theorem a_Mo_readPlant_70 : dk_at b_Mo_readPlant 70 t_Mo_readPlant_70 := dk_go 3 a_Mo_readPlant_67 rfl
theorem a_Mo_readPlant_71 : dk_at b_Mo_readPlant 71 t_Mo_readPlant_71 := dk_go 1 a_Mo_readPlant_70 rfl
theorem a_Mo_readPlant_72 : dk_at b_Mo_readPlant 72 t_Mo_readPlant_72 := dk_go 1 a_Mo_readPlant_71 rfl
theorem a_Mo_readPlant_75 : dk_at b_Mo_readPlant 75 t_Mo_readPlant_75 := dk_go 3 a_Mo_readPlant_72 rfl
theorem a_Mo_readPlant_76 : dk_at b_Mo_readPlant 76 t_Mo_readPlant_76 := dk_go 1 a_Mo_readPlant_75 rfl
theorem a_Mo_readPlant_77 : dk_at b_Mo_readPlant 77 t_Mo_readPlant_77 := dk_go 1 a_Mo_readPlant_76 rfl
theorem a_Mo_readPlant_80 : dk_at b_Mo_readPlant 80 t_Mo_readPlant_80 := dk_go 3 a_Mo_readPlant_77 rfl
theorem a_Mo_readPlant_81 : dk_at b_Mo_readPlant 81 t_Mo_readPlant_81 := dk_go 1 a_Mo_readPlant_80 rfl
theorem a_Mo_readPlant_82 : dk_at b_Mo_readPlant 82 t_Mo_readPlant_82 := dk_go 1 a_Mo_readPlant_81 rfl
theorem a_Mo_readPlant_85 : dk_at b_Mo_readPlant 85 t_Mo_readPlant_85 := dk_go 3 a_Mo_readPlant_82 rfl
theorem a_Mo_readPlant_86 : dk_at b_Mo_readPlant 86 t_Mo_readPlant_86 := dk_go 1 a_Mo_readPlant_85 rfl
theorem a_Mo_readPlant_87 : dk_at b_Mo_readPlant 87 t_Mo_readPlant_87 := dk_go 1 a_Mo_readPlant_86 rfl
theorem a_Mo_readPlant_90 : dk_at b_Mo_readPlant 90 t_Mo_readPlant_90 := dk_go 3 a_Mo_readPlant_87 rfl
theorem a_Mo_readPlant_91 : dk_at b_Mo_readPlant 91 t_Mo_readPlant_91 := dk_go 1 a_Mo_readPlant_90 rfl
theorem a_Mo_readPlant_94 : dk_at b_Mo_readPlant 94 t_Mo_readPlant_94 := dk_go 3 a_Mo_readPlant_91 rfl
theorem a_Mo_readPlant_95 : dk_at b_Mo_readPlant 95 t_Mo_readPlant_95 := dk_go 1 a_Mo_readPlant_94 rfl
theorem a_Mo_readPlant_98 : dk_at b_Mo_readPlant 98 t_Mo_readPlant_98 := dk_go 3 a_Mo_readPlant_95 rfl
theorem a_Mo_readPlant_101 : dk_at b_Mo_readPlant 101 t_Mo_readPlant_101 := dk_go 3 a_Mo_readPlant_98 rfl
theorem a_Mo_readPlant_102 : dk_at b_Mo_readPlant 102 t_Mo_readPlant_102 := dk_go 1 a_Mo_readPlant_101 rfl
theorem a_Mo_readPlant_105 : dk_at b_Mo_readPlant 105 t_Mo_readPlant_105 := dk_go 3 a_Mo_readPlant_102 rfl
theorem a_Mo_readPlant_106 : dk_at b_Mo_readPlant 106 t_Mo_readPlant_106 := dk_go 1 a_Mo_readPlant_105 rfl
theorem a_Mo_readPlant_107 : dk_at b_Mo_readPlant 107 t_Mo_readPlant_107 := dk_go 1 a_Mo_readPlant_106 rfl
theorem a_Mo_readPlant_108 : dk_at b_Mo_readPlant 108 t_Mo_readPlant_108 := dk_go 1 a_Mo_readPlant_107 rfl
theorem a_Mo_readPlant_111 : dk_at b_Mo_readPlant 111 t_Mo_readPlant_111 := dk_go 3 a_Mo_readPlant_108 rfl
theorem a_Mo_readPlant_112 : dk_at b_Mo_readPlant 112 t_Mo_readPlant_112 := dk_go 1 a_Mo_readPlant_111 rfl
theorem a_Mo_readPlant_113 : dk_at b_Mo_readPlant 113 t_Mo_readPlant_113 := dk_go 1 a_Mo_readPlant_112 rfl
theorem a_Mo_readPlant_116 : dk_at b_Mo_readPlant 116 t_Mo_readPlant_116 := dk_go 3 a_Mo_readPlant_113 rfl
theorem a_Mo_readPlant_117 : dk_at b_Mo_readPlant 117 t_Mo_readPlant_117 := dk_go 1 a_Mo_readPlant_116 rfl
theorem a_Mo_readPlant_118 : dk_at b_Mo_readPlant 118 t_Mo_readPlant_118 := dk_go 1 a_Mo_readPlant_117 rfl
theorem a_Mo_readPlant_121 : dk_at b_Mo_readPlant 121 t_Mo_readPlant_121 := dk_go 3 a_Mo_readPlant_118 rfl
theorem a_Mo_readPlant_124 : dk_at b_Mo_readPlant 124 t_Mo_readPlant_124 := dk_go 3 a_Mo_readPlant_121 rfl
theorem a_Mo_readPlant_125 : dk_at b_Mo_readPlant 125 t_Mo_readPlant_125 := dk_go 1 a_Mo_readPlant_124 rfl
theorem a_Mo_readPlant_126 : dk_at b_Mo_readPlant 126 t_Mo_readPlant_126 := dk_go 1 a_Mo_readPlant_125 rfl
theorem a_Mo_readPlant_127 : dk_at b_Mo_readPlant 127 t_Mo_readPlant_127 := dk_go 1 a_Mo_readPlant_126 rfl
theorem a_Mo_readPlant_129 : dk_at b_Mo_readPlant 129 t_Mo_readPlant_129 := dk_go 2 a_Mo_readPlant_127 rfl
theorem a_Mo_readPlant_132 : dk_at b_Mo_readPlant 132 t_Mo_readPlant_132 := dk_go 3 a_Mo_readPlant_129 rfl
theorem a_Mo_readPlant_133 : dk_at b_Mo_readPlant 133 t_Mo_readPlant_133 := dk_go 1 a_Mo_readPlant_132 rfl
theorem a_Mo_readPlant_136 : dk_at b_Mo_readPlant 136 t_Mo_readPlant_136 := dk_go 3 a_Mo_readPlant_133 rfl
theorem a_Mo_readPlant_137 : dk_at b_Mo_readPlant 137 t_Mo_readPlant_137 := dk_go 1 a_Mo_readPlant_136 rfl
theorem a_Mo_readPlant_138 : dk_at b_Mo_readPlant 138 t_Mo_readPlant_138 := dk_go 1 a_Mo_readPlant_137 rfl
theorem a_Mo_readPlant_139 : dk_at b_Mo_readPlant 139 t_Mo_readPlant_139 := dk_go 1 a_Mo_readPlant_138 rfl
theorem a_Mo_readPlant_140 : dk_at b_Mo_readPlant 140 t_Mo_readPlant_140 := dk_go 1 a_Mo_readPlant_139 rfl
theorem a_Mo_readPlant_141 : dk_at b_Mo_readPlant 141 t_Mo_readPlant_141 := dk_go 1 a_Mo_readPlant_140 rfl
theorem a_Mo_readPlant_144 : dk_at b_Mo_readPlant 144 t_Mo_readPlant_144 := dk_go 3 a_Mo_readPlant_141 rfl
theorem a_Mo_readPlant_147 : dk_at b_Mo_readPlant 147 t_Mo_readPlant_147 := dk_go 3 a_Mo_readPlant_144 rfl
theorem a_Mo_readPlant_150 : dk_at b_Mo_readPlant 150 t_Mo_readPlant_150 := dk_go 3 a_Mo_readPlant_147 rfl
theorem a_Mo_readPlant_151 : dk_at b_Mo_readPlant 151 t_Mo_readPlant_151 := dk_go 1 a_Mo_readPlant_150 rfl
theorem a_Mo_readPlant_154 : dk_at b_Mo_readPlant 154 t_Mo_readPlant_154 := dk_go 3 a_Mo_readPlant_151 rfl
theorem d_Mo_readPlant_0 : decode b_Mo_readPlant 0 = .ok (.aload_n 0, 1) := dk_0 a_Mo_readPlant_0 (dko_42 _)
theorem d_Mo_readPlant_1 : decode b_Mo_readPlant 1 = .ok (.iconst 0, 1) := dk_0 a_Mo_readPlant_1 (dko_3 _)
theorem d_Mo_readPlant_2 : decode b_Mo_readPlant 2 = .ok (.putfield 234, 3) := dk_U2 a_Mo_readPlant_2 (dko_181 _) rfl
theorem d_Mo_readPlant_5 : decode b_Mo_readPlant 5 = .ok (.aload_n 0, 1) := dk_0 a_Mo_readPlant_5 (dko_42 _)
theorem d_Mo_readPlant_6 : decode b_Mo_readPlant 6 = .ok (.iconst 0, 1) := dk_0 a_Mo_readPlant_6 (dko_3 _)
theorem d_Mo_readPlant_7 : decode b_Mo_readPlant 7 = .ok (.putfield 261, 3) := dk_U2 a_Mo_readPlant_7 (dko_181 _) rfl
theorem d_Mo_readPlant_10 : decode b_Mo_readPlant 10 = .ok (.aload_n 0, 1) := dk_0 a_Mo_readPlant_10 (dko_42 _)
theorem d_Mo_readPlant_11 : decode b_Mo_readPlant 11 = .ok (.iconst 0, 1) := dk_0 a_Mo_readPlant_11 (dko_3 _)
theorem d_Mo_readPlant_12 : decode b_Mo_readPlant 12 = .ok (.putfield 265, 3) := dk_U2 a_Mo_readPlant_12 (dko_181 _) rfl
theorem d_Mo_readPlant_15 : decode b_Mo_readPlant 15 = .ok (.aload_n 0, 1) := dk_0 a_Mo_readPlant_15 (dko_42 _)
theorem d_Mo_readPlant_16 : decode b_Mo_readPlant 16 = .ok (.getfield 234, 3) := dk_U2 a_Mo_readPlant_16 (dko_180 _) rfl
theorem d_Mo_readPlant_19 : decode b_Mo_readPlant 19 = .ok (.aload_n 0, 1) := dk_0 a_Mo_readPlant_19 (dko_42 _)
theorem d_Mo_readPlant_20 : decode b_Mo_readPlant 20 = .ok (.getfield 215, 3) := dk_U2 a_Mo_readPlant_20 (dko_180 _) rfl
theorem d_Mo_readPlant_23 : decode b_Mo_readPlant 23 = .ok (.if_icmp .ge 42, 3) := dk_S2 a_Mo_readPlant_23 (dko_162 _) (by decide +kernel)
theorem d_Mo_readPlant_65 : decode b_Mo_readPlant 65 = .ok (.aload_n 0, 1) := dk_0 a_Mo_readPlant_65 (dko_42 _)
theorem d_Mo_readPlant_66 : decode b_Mo_readPlant 66 = .ok (.iconst 0, 1) := dk_0 a_Mo_readPlant_66 (dko_3 _)
theorem d_Mo_readPlant_67 : decode b_Mo_readPlant 67 = .ok (.putfield 278, 3) := dk_U2 a_Mo_readPlant_67 (dko_181 _) rfl
theorem d_Mo_readPlant_70 : decode b_Mo_readPlant 70 = .ok (.aload_n 0, 1) := dk_0 a_Mo_readPlant_70 (dko_42 _)
theorem d_Mo_readPlant_71 : decode b_Mo_readPlant 71 = .ok (.iconst 0, 1) := dk_0 a_Mo_readPlant_71 (dko_3 _)
theorem d_Mo_readPlant_72 : decode b_Mo_readPlant 72 = .ok (.putfield 281, 3) := dk_U2 a_Mo_readPlant_72 (dko_181 _) rfl
theorem d_Mo_readPlant_75 : decode b_Mo_readPlant 75 = .ok (.aload_n 0, 1) := dk_0 a_Mo_readPlant_75 (dko_42 _)
theorem d_Mo_readPlant_76 : decode b_Mo_readPlant 76 = .ok (.iconst 0, 1) := dk_0 a_Mo_readPlant_76 (dko_3 _)
theorem d_Mo_readPlant_77 : decode b_Mo_readPlant 77 = .ok (.putfield 284, 3) := dk_U2 a_Mo_readPlant_77 (dko_181 _) rfl
theorem d_Mo_readPlant_80 : decode b_Mo_readPlant 80 = .ok (.aload_n 0, 1) := dk_0 a_Mo_readPlant_80 (dko_42 _)
theorem d_Mo_readPlant_81 : decode b_Mo_readPlant 81 = .ok (.iconst 4, 1) := dk_0 a_Mo_readPlant_81 (dko_7 _)
theorem d_Mo_readPlant_82 : decode b_Mo_readPlant 82 = .ok (.putfield 162, 3) := dk_U2 a_Mo_readPlant_82 (dko_181 _) rfl
theorem d_Mo_readPlant_85 : decode b_Mo_readPlant 85 = .ok (.aload_n 0, 1) := dk_0 a_Mo_readPlant_85 (dko_42 _)
theorem d_Mo_readPlant_86 : decode b_Mo_readPlant 86 = .ok (.iconst 0, 1) := dk_0 a_Mo_readPlant_86 (dko_3 _)
theorem d_Mo_readPlant_87 : decode b_Mo_readPlant 87 = .ok (.putfield 234, 3) := dk_U2 a_Mo_readPlant_87 (dko_181 _) rfl
theorem d_Mo_readPlant_90 : decode b_Mo_readPlant 90 = .ok (.aload_n 0, 1) := dk_0 a_Mo_readPlant_90 (dko_42 _)
theorem d_Mo_readPlant_91 : decode b_Mo_readPlant 91 = .ok (.getfield 234, 3) := dk_U2 a_Mo_readPlant_91 (dko_180 _) rfl
theorem d_Mo_readPlant_94 : decode b_Mo_readPlant 94 = .ok (.aload_n 0, 1) := dk_0 a_Mo_readPlant_94 (dko_42 _)
theorem d_Mo_readPlant_95 : decode b_Mo_readPlant 95 = .ok (.getfield 215, 3) := dk_U2 a_Mo_readPlant_95 (dko_180 _) rfl
theorem d_Mo_readPlant_98 : decode b_Mo_readPlant 98 = .ok (.if_icmp .ge 26, 3) := dk_S2 a_Mo_readPlant_98 (dko_162 _) (by decide +kernel)
theorem d_Mo_readPlant_124 : decode b_Mo_readPlant 124 = .ok (.iconst 0, 1) := dk_0 a_Mo_readPlant_124 (dko_3 _)
theorem d_Mo_readPlant_125 : decode b_Mo_readPlant 125 = .ok (.istore_n 1, 1) := dk_0 a_Mo_readPlant_125 (dko_60 _)
theorem d_Mo_readPlant_126 : decode b_Mo_readPlant 126 = .ok (.iload_n 1, 1) := dk_0 a_Mo_readPlant_126 (dko_27 _)
theorem d_Mo_readPlant_127 : decode b_Mo_readPlant 127 = .ok (.bipush 44, 2) := dk_S1 a_Mo_readPlant_127 (dko_16 _) (by decide +kernel)
theorem d_Mo_readPlant_129 : decode b_Mo_readPlant 129 = .ok (.if_icmp .ge 21, 3) := dk_S2 a_Mo_readPlant_129 (dko_162 _) (by decide +kernel)
theorem d_Mo_readPlant_132 : decode b_Mo_readPlant 132 = .ok (.aload_n 0, 1) := dk_0 a_Mo_readPlant_132 (dko_42 _)
theorem d_Mo_readPlant_133 : decode b_Mo_readPlant 133 = .ok (.getfield 58, 3) := dk_U2 a_Mo_readPlant_133 (dko_180 _) rfl
theorem d_Mo_readPlant_136 : decode b_Mo_readPlant 136 = .ok (.iload_n 1, 1) := dk_0 a_Mo_readPlant_136 (dko_27 _)
theorem d_Mo_readPlant_137 : decode b_Mo_readPlant 137 = .ok (.iconst 0, 1) := dk_0 a_Mo_readPlant_137 (dko_3 _)
theorem d_Mo_readPlant_138 : decode b_Mo_readPlant 138 = .ok (.iastore, 1) := dk_0 a_Mo_readPlant_138 (dko_79 _)
theorem d_Mo_readPlant_139 : decode b_Mo_readPlant 139 = .ok (.aload_n 0, 1) := dk_0 a_Mo_readPlant_139 (dko_42 _)
theorem d_Mo_readPlant_140 : decode b_Mo_readPlant 140 = .ok (.iload_n 1, 1) := dk_0 a_Mo_readPlant_140 (dko_27 _)
theorem d_Mo_readPlant_141 : decode b_Mo_readPlant 141 = .ok (.invokevirtual 291, 3) := dk_U2 a_Mo_readPlant_141 (dko_182 _) rfl
theorem d_Mo_readPlant_144 : decode b_Mo_readPlant 144 = .ok (.iinc 1 1, 3) := dk_US a_Mo_readPlant_144 (dko_132 _) (by decide +kernel)
theorem d_Mo_readPlant_147 : decode b_Mo_readPlant 147 = .ok (.goto (-21), 3) := dk_S2 a_Mo_readPlant_147 (dko_167 _) (by decide +kernel)
theorem d_Mo_readPlant_150 : decode b_Mo_readPlant 150 = .ok (.aload_n 0, 1) := dk_0 a_Mo_readPlant_150 (dko_42 _)
theorem d_Mo_readPlant_151 : decode b_Mo_readPlant 151 = .ok (.getfield 278, 3) := dk_U2 a_Mo_readPlant_151 (dko_180 _) rfl
theorem d_Mo_readPlant_154 : decode b_Mo_readPlant 154 = .ok (.ireturn, 1) := dk_0 a_Mo_readPlant_154 (dko_172 _)
set_option maxHeartbeats 4000000 in
set_option maxRecDepth 100000 in
theorem c_Mo_readPlant (l : Launch) (dC : Nat → ClassId) (dI : Nat → Nat → Nat) (cI cB cZ cJ : ClassId) (nn : Int32) (hnn : ¬ 0 < nn) (oM : Nat) (am_lasts : Nat) (am_cleaned : Nat) (fm : List Value) (hm_things : fx fm 4 (.int 0)) (hm_pipes : fx fm 11 (.int 0)) (hm_lasts : fx fm 16 (.ref am_lasts)) (hm_cleaned : fx fm 17 (.ref am_cleaned)) (hm_place : fx fm 21 (.int 0)) (hm_limit : fx fm 22 (.int nn)) (hm_ways : fx fm 26 (.int 0)) (hm_state : fx fm 59 (.int 4)) (hm_newThings : fx fm 85 (.int 0)) (hm_newPipes : fx fm 86 (.int 0)) (sz : Nat) : Met l y_Mo_readPlant w_Mo_readPlant ({ frames := 1, cells := 0, slots := 0, locals := 22 }) (va_Pc [.ref oM] (PW dC dI cI cB cZ cJ [(oM, .inr (12, fm)), (am_lasts, .inl (cI, 44, .inl (fun _ => 0))), (am_cleaned, .inl (cI, 264, .inl (fun _ => 0)))] sz)) (va_Qi (fun (r : Int32) (_ : Unit) => r = 0) (fun _ _ => True) (va_A [(oM, .inr (12, fm)), (am_lasts, .inl (cI, 44, .inl (fun _ => 0))), (am_cleaned, .inl (cI, 264, .inl (fun _ => 0)))] sz)) 0 0 (va_A [(oM, .inr (12, fm)), (am_lasts, .inl (cI, 44, .inl (fun _ => 0))), (am_cleaned, .inl (cI, 264, .inl (fun _ => 0)))] sz) := by
  refine Met.ofW (cc := b_Mo_readPlant) (maxL := 2) (ret := (some .int)) (by decide) rfl ?_
  intro p e s m args below meth c s₁ B hml hv
  obtain ⟨rfl, hsz, hP, hK, hD⟩ := hv
  have hx := B.exec
  have hb := B.bytes
  have hr := B.returns
  have hts := atoms_spec (ws := w_Mo_readPlant) B.pre
  have hown : s.vm.findClass R_Mo = some m.cls := findClass_of_methodNamed B.named
  have hlocks := B.notSynchronized
  subst hsz
  have hD := hD.self (sz := s.heap.size)
  generalize hAe : va_A [(oM, .inr (12, fm)), (am_lasts, .inl (cI, 44, .inl (fun _ => 0))), (am_cleaned, .inl (cI, 264, .inl (fun _ => 0)))] s.heap.size = A at hD ⊢
  have hA : ∀ q : Nat, s.heap.size ≤ q → A q := fun q h => by rw [← hAe]; exact Or.inr h
  have hS : va_S A s.heap s.heap [] := va_S.rf
  have hP : va_P (dC, dI) classes [(oM, .inr (12, fm)), (am_lasts, .inl (cI, 44, .inl (fun _ => 0))), (am_cleaned, .inl (cI, 264, .inl (fun _ => 0)))] s.heap := hP
  have hl := lv_entry ([.ref oM]) (n := 2) (Nat.le_of_ble_eq_true rfl)
  rw [lg_entry_eq]
  generalize (lg_sl ([.ref oM]) ++ List.replicate (2 - (lg_sl ([.ref oM])).length) Slot.unset).toArray = ls at hl ⊢
  have hl : lv_has ls 2 [(0, .ref oM)] := hl
  refine lv_aload_n hx hb d_Mo_readPlant_0 rfl (lv_at hl 0 rfl) ?_
  refine lv_iconst (v := 0) hx hb d_Mo_readPlant_1 (by decide) ?_
  refine va_put (D := (dC, dI)) (ci := 12) (v := .int 0) (ty := .int) (C := R_Mo) (T := F_Mo) (N := 87) hx hb hts (fun w h => List.mem_cons_of_mem _ (in_Mo w h)) t_Mo t_Mo_ok n_Mo hown hK.1 hP hD hS 0 rfl rfl 21 (by decide) (hts _ (List.mem_cons_of_mem _ mw_1815)) (fun _ h9 => h9) rfl (by decide +kernel) rfl rfl (st_lt hm_place) d_Mo_readPlant_2 (fun H locs hP hD hS => ?_)
  have g2_17 : fx (fm.set 21 (.int 0)) 17 (.ref am_cleaned) := (st_ne hm_cleaned (by decide))
  have g2_16 : fx (fm.set 21 (.int 0)) 16 (.ref am_lasts) := (st_ne hm_lasts (by decide))
  have g2_22 : fx (fm.set 21 (.int 0)) 22 (.int nn) := (st_ne hm_limit (by decide))
  have g2_86 : fx (fm.set 21 (.int 0)) 86 (.int 0) := (st_ne hm_newPipes (by decide))
  have g2_85 : fx (fm.set 21 (.int 0)) 85 (.int 0) := (st_ne hm_newThings (by decide))
  have g2_11 : fx (fm.set 21 (.int 0)) 11 (.int 0) := (st_ne hm_pipes (by decide))
  have g2_21 : fx (fm.set 21 (.int 0)) 21 (.int 0) := (st_eq hm_place)
  have g2_59 : fx (fm.set 21 (.int 0)) 59 (.int 4) := (st_ne hm_state (by decide))
  have g2_4 : fx (fm.set 21 (.int 0)) 4 (.int 0) := (st_ne hm_things (by decide))
  have g2_26 : fx (fm.set 21 (.int 0)) 26 (.int 0) := (st_ne hm_ways (by decide))
  have hP : va_P (dC, dI) classes [(oM, .inr (12, (fm.set 21 (.int 0)))), (am_lasts, .inl (cI, 44, .inl (fun _ => 0))), (am_cleaned, .inl (cI, 264, .inl (fun _ => 0)))] H := hP
  have hD : va_D A [(oM, .inr (12, (fm.set 21 (.int 0)))), (am_lasts, .inl (cI, 44, .inl (fun _ => 0))), (am_cleaned, .inl (cI, 264, .inl (fun _ => 0)))] := hD
  refine lv_aload_n hx hb d_Mo_readPlant_5 rfl (lv_at hl 0 rfl) ?_
  refine lv_iconst (v := 0) hx hb d_Mo_readPlant_6 (by decide) ?_
  refine va_put (D := (dC, dI)) (ci := 12) (v := .int 0) (ty := .int) (C := R_Mo) (T := F_Mo) (N := 87) hx hb hts (fun w h => List.mem_cons_of_mem _ (in_Mo w h)) t_Mo t_Mo_ok n_Mo hown hK.1 hP hD hS 0 rfl rfl 85 (by decide) (hts _ (List.mem_cons_of_mem _ mw_1879)) (fun _ h9 => h9) rfl (by decide +kernel) rfl rfl (st_lt g2_85) d_Mo_readPlant_7 (fun H locs hP hD hS => ?_)
  have g7_17 : fx ((fm.set 21 (.int 0)).set 85 (.int 0)) 17 (.ref am_cleaned) := (st_ne g2_17 (by decide))
  have g7_16 : fx ((fm.set 21 (.int 0)).set 85 (.int 0)) 16 (.ref am_lasts) := (st_ne g2_16 (by decide))
  have g7_22 : fx ((fm.set 21 (.int 0)).set 85 (.int 0)) 22 (.int nn) := (st_ne g2_22 (by decide))
  have g7_86 : fx ((fm.set 21 (.int 0)).set 85 (.int 0)) 86 (.int 0) := (st_ne g2_86 (by decide))
  have g7_85 : fx ((fm.set 21 (.int 0)).set 85 (.int 0)) 85 (.int 0) := (st_eq g2_85)
  have g7_11 : fx ((fm.set 21 (.int 0)).set 85 (.int 0)) 11 (.int 0) := (st_ne g2_11 (by decide))
  have g7_21 : fx ((fm.set 21 (.int 0)).set 85 (.int 0)) 21 (.int 0) := (st_ne g2_21 (by decide))
  have g7_59 : fx ((fm.set 21 (.int 0)).set 85 (.int 0)) 59 (.int 4) := (st_ne g2_59 (by decide))
  have g7_4 : fx ((fm.set 21 (.int 0)).set 85 (.int 0)) 4 (.int 0) := (st_ne g2_4 (by decide))
  have g7_26 : fx ((fm.set 21 (.int 0)).set 85 (.int 0)) 26 (.int 0) := (st_ne g2_26 (by decide))
  have hP : va_P (dC, dI) classes [(oM, .inr (12, ((fm.set 21 (.int 0)).set 85 (.int 0)))), (am_lasts, .inl (cI, 44, .inl (fun _ => 0))), (am_cleaned, .inl (cI, 264, .inl (fun _ => 0)))] H := hP
  have hD : va_D A [(oM, .inr (12, ((fm.set 21 (.int 0)).set 85 (.int 0)))), (am_lasts, .inl (cI, 44, .inl (fun _ => 0))), (am_cleaned, .inl (cI, 264, .inl (fun _ => 0)))] := hD
  refine lv_aload_n hx hb d_Mo_readPlant_10 rfl (lv_at hl 0 rfl) ?_
  refine lv_iconst (v := 0) hx hb d_Mo_readPlant_11 (by decide) ?_
  refine va_put (D := (dC, dI)) (ci := 12) (v := .int 0) (ty := .int) (C := R_Mo) (T := F_Mo) (N := 87) hx hb hts (fun w h => List.mem_cons_of_mem _ (in_Mo w h)) t_Mo t_Mo_ok n_Mo hown hK.1 hP hD hS 0 rfl rfl 86 (by decide) (hts _ (List.mem_cons_of_mem _ mw_1880)) (fun _ h9 => h9) rfl (by decide +kernel) rfl rfl (st_lt g7_86) d_Mo_readPlant_12 (fun H locs hP hD hS => ?_)
  have g12_17 : fx (((fm.set 21 (.int 0)).set 85 (.int 0)).set 86 (.int 0)) 17 (.ref am_cleaned) := (st_ne g7_17 (by decide))
  have g12_16 : fx (((fm.set 21 (.int 0)).set 85 (.int 0)).set 86 (.int 0)) 16 (.ref am_lasts) := (st_ne g7_16 (by decide))
  have g12_22 : fx (((fm.set 21 (.int 0)).set 85 (.int 0)).set 86 (.int 0)) 22 (.int nn) := (st_ne g7_22 (by decide))
  have g12_86 : fx (((fm.set 21 (.int 0)).set 85 (.int 0)).set 86 (.int 0)) 86 (.int 0) := (st_eq g7_86)
  have g12_85 : fx (((fm.set 21 (.int 0)).set 85 (.int 0)).set 86 (.int 0)) 85 (.int 0) := (st_ne g7_85 (by decide))
  have g12_11 : fx (((fm.set 21 (.int 0)).set 85 (.int 0)).set 86 (.int 0)) 11 (.int 0) := (st_ne g7_11 (by decide))
  have g12_21 : fx (((fm.set 21 (.int 0)).set 85 (.int 0)).set 86 (.int 0)) 21 (.int 0) := (st_ne g7_21 (by decide))
  have g12_59 : fx (((fm.set 21 (.int 0)).set 85 (.int 0)).set 86 (.int 0)) 59 (.int 4) := (st_ne g7_59 (by decide))
  have g12_4 : fx (((fm.set 21 (.int 0)).set 85 (.int 0)).set 86 (.int 0)) 4 (.int 0) := (st_ne g7_4 (by decide))
  have g12_26 : fx (((fm.set 21 (.int 0)).set 85 (.int 0)).set 86 (.int 0)) 26 (.int 0) := (st_ne g7_26 (by decide))
  have hP : va_P (dC, dI) classes [(oM, .inr (12, (((fm.set 21 (.int 0)).set 85 (.int 0)).set 86 (.int 0)))), (am_lasts, .inl (cI, 44, .inl (fun _ => 0))), (am_cleaned, .inl (cI, 264, .inl (fun _ => 0)))] H := hP
  have hD : va_D A [(oM, .inr (12, (((fm.set 21 (.int 0)).set 85 (.int 0)).set 86 (.int 0)))), (am_lasts, .inl (cI, 44, .inl (fun _ => 0))), (am_cleaned, .inl (cI, 264, .inl (fun _ => 0)))] := hD
  refine lv_aload_n hx hb d_Mo_readPlant_15 rfl (lv_at hl 0 rfl) ?_
  refine va_get (D := (dC, dI)) (ci := 12) (v := .int 0) (C := R_Mo) (T := F_Mo) (N := 87) hx hb hts (fun w h => List.mem_cons_of_mem _ (in_Mo w h)) hown hK.1 hP 0 rfl rfl 21 (by decide) (hts _ (List.mem_cons_of_mem _ mw_1815)) (fun _ h9 => h9) g12_21 d_Mo_readPlant_16 ?_
  refine lv_aload_n hx hb d_Mo_readPlant_19 rfl (lv_at hl 0 rfl) ?_
  refine va_get (D := (dC, dI)) (ci := 12) (v := .int nn) (C := R_Mo) (T := F_Mo) (N := 87) hx hb hts (fun w h => List.mem_cons_of_mem _ (in_Mo w h)) hown hK.1 hP 0 rfl rfl 22 (by decide) (hts _ (List.mem_cons_of_mem _ mw_1816)) (fun _ h9 => h9) g12_22 d_Mo_readPlant_20 ?_
  refine lv_icmp_ge (tgt := 65) hx hb d_Mo_readPlant_23 (by decide) (fun _ => ?_) (fun h => absurd (nu_le hnn (by decide)) h)
  refine lv_aload_n hx hb d_Mo_readPlant_65 rfl (lv_at hl 0 rfl) ?_
  refine lv_iconst (v := 0) hx hb d_Mo_readPlant_66 (by decide) ?_
  refine va_put (D := (dC, dI)) (ci := 12) (v := .int 0) (ty := .int) (C := R_Mo) (T := F_Mo) (N := 87) hx hb hts (fun w h => List.mem_cons_of_mem _ (in_Mo w h)) t_Mo t_Mo_ok n_Mo hown hK.1 hP hD hS 0 rfl rfl 4 (by decide) (hts _ (List.mem_cons_of_mem _ mw_1798)) (fun _ h9 => h9) rfl (by decide +kernel) rfl rfl (st_lt g12_4) d_Mo_readPlant_67 (fun H locs hP hD hS => ?_)
  have g67_17 : fx ((((fm.set 21 (.int 0)).set 85 (.int 0)).set 86 (.int 0)).set 4 (.int 0)) 17 (.ref am_cleaned) := (st_ne g12_17 (by decide))
  have g67_16 : fx ((((fm.set 21 (.int 0)).set 85 (.int 0)).set 86 (.int 0)).set 4 (.int 0)) 16 (.ref am_lasts) := (st_ne g12_16 (by decide))
  have g67_22 : fx ((((fm.set 21 (.int 0)).set 85 (.int 0)).set 86 (.int 0)).set 4 (.int 0)) 22 (.int nn) := (st_ne g12_22 (by decide))
  have g67_86 : fx ((((fm.set 21 (.int 0)).set 85 (.int 0)).set 86 (.int 0)).set 4 (.int 0)) 86 (.int 0) := (st_ne g12_86 (by decide))
  have g67_85 : fx ((((fm.set 21 (.int 0)).set 85 (.int 0)).set 86 (.int 0)).set 4 (.int 0)) 85 (.int 0) := (st_ne g12_85 (by decide))
  have g67_11 : fx ((((fm.set 21 (.int 0)).set 85 (.int 0)).set 86 (.int 0)).set 4 (.int 0)) 11 (.int 0) := (st_ne g12_11 (by decide))
  have g67_21 : fx ((((fm.set 21 (.int 0)).set 85 (.int 0)).set 86 (.int 0)).set 4 (.int 0)) 21 (.int 0) := (st_ne g12_21 (by decide))
  have g67_59 : fx ((((fm.set 21 (.int 0)).set 85 (.int 0)).set 86 (.int 0)).set 4 (.int 0)) 59 (.int 4) := (st_ne g12_59 (by decide))
  have g67_4 : fx ((((fm.set 21 (.int 0)).set 85 (.int 0)).set 86 (.int 0)).set 4 (.int 0)) 4 (.int 0) := (st_eq g12_4)
  have g67_26 : fx ((((fm.set 21 (.int 0)).set 85 (.int 0)).set 86 (.int 0)).set 4 (.int 0)) 26 (.int 0) := (st_ne g12_26 (by decide))
  have hP : va_P (dC, dI) classes [(oM, .inr (12, ((((fm.set 21 (.int 0)).set 85 (.int 0)).set 86 (.int 0)).set 4 (.int 0)))), (am_lasts, .inl (cI, 44, .inl (fun _ => 0))), (am_cleaned, .inl (cI, 264, .inl (fun _ => 0)))] H := hP
  have hD : va_D A [(oM, .inr (12, ((((fm.set 21 (.int 0)).set 85 (.int 0)).set 86 (.int 0)).set 4 (.int 0)))), (am_lasts, .inl (cI, 44, .inl (fun _ => 0))), (am_cleaned, .inl (cI, 264, .inl (fun _ => 0)))] := hD
  refine lv_aload_n hx hb d_Mo_readPlant_70 rfl (lv_at hl 0 rfl) ?_
  refine lv_iconst (v := 0) hx hb d_Mo_readPlant_71 (by decide) ?_
  refine va_put (D := (dC, dI)) (ci := 12) (v := .int 0) (ty := .int) (C := R_Mo) (T := F_Mo) (N := 87) hx hb hts (fun w h => List.mem_cons_of_mem _ (in_Mo w h)) t_Mo t_Mo_ok n_Mo hown hK.1 hP hD hS 0 rfl rfl 11 (by decide) (hts _ (List.mem_cons_of_mem _ mw_1805)) (fun _ h9 => h9) rfl (by decide +kernel) rfl rfl (st_lt g67_11) d_Mo_readPlant_72 (fun H locs hP hD hS => ?_)
  have g72_17 : fx (((((fm.set 21 (.int 0)).set 85 (.int 0)).set 86 (.int 0)).set 4 (.int 0)).set 11 (.int 0)) 17 (.ref am_cleaned) := (st_ne g67_17 (by decide))
  have g72_16 : fx (((((fm.set 21 (.int 0)).set 85 (.int 0)).set 86 (.int 0)).set 4 (.int 0)).set 11 (.int 0)) 16 (.ref am_lasts) := (st_ne g67_16 (by decide))
  have g72_22 : fx (((((fm.set 21 (.int 0)).set 85 (.int 0)).set 86 (.int 0)).set 4 (.int 0)).set 11 (.int 0)) 22 (.int nn) := (st_ne g67_22 (by decide))
  have g72_86 : fx (((((fm.set 21 (.int 0)).set 85 (.int 0)).set 86 (.int 0)).set 4 (.int 0)).set 11 (.int 0)) 86 (.int 0) := (st_ne g67_86 (by decide))
  have g72_85 : fx (((((fm.set 21 (.int 0)).set 85 (.int 0)).set 86 (.int 0)).set 4 (.int 0)).set 11 (.int 0)) 85 (.int 0) := (st_ne g67_85 (by decide))
  have g72_11 : fx (((((fm.set 21 (.int 0)).set 85 (.int 0)).set 86 (.int 0)).set 4 (.int 0)).set 11 (.int 0)) 11 (.int 0) := (st_eq g67_11)
  have g72_21 : fx (((((fm.set 21 (.int 0)).set 85 (.int 0)).set 86 (.int 0)).set 4 (.int 0)).set 11 (.int 0)) 21 (.int 0) := (st_ne g67_21 (by decide))
  have g72_59 : fx (((((fm.set 21 (.int 0)).set 85 (.int 0)).set 86 (.int 0)).set 4 (.int 0)).set 11 (.int 0)) 59 (.int 4) := (st_ne g67_59 (by decide))
  have g72_4 : fx (((((fm.set 21 (.int 0)).set 85 (.int 0)).set 86 (.int 0)).set 4 (.int 0)).set 11 (.int 0)) 4 (.int 0) := (st_ne g67_4 (by decide))
  have g72_26 : fx (((((fm.set 21 (.int 0)).set 85 (.int 0)).set 86 (.int 0)).set 4 (.int 0)).set 11 (.int 0)) 26 (.int 0) := (st_ne g67_26 (by decide))
  have hP : va_P (dC, dI) classes [(oM, .inr (12, (((((fm.set 21 (.int 0)).set 85 (.int 0)).set 86 (.int 0)).set 4 (.int 0)).set 11 (.int 0)))), (am_lasts, .inl (cI, 44, .inl (fun _ => 0))), (am_cleaned, .inl (cI, 264, .inl (fun _ => 0)))] H := hP
  have hD : va_D A [(oM, .inr (12, (((((fm.set 21 (.int 0)).set 85 (.int 0)).set 86 (.int 0)).set 4 (.int 0)).set 11 (.int 0)))), (am_lasts, .inl (cI, 44, .inl (fun _ => 0))), (am_cleaned, .inl (cI, 264, .inl (fun _ => 0)))] := hD
  refine lv_aload_n hx hb d_Mo_readPlant_75 rfl (lv_at hl 0 rfl) ?_
  refine lv_iconst (v := 0) hx hb d_Mo_readPlant_76 (by decide) ?_
  refine va_put (D := (dC, dI)) (ci := 12) (v := .int 0) (ty := .int) (C := R_Mo) (T := F_Mo) (N := 87) hx hb hts (fun w h => List.mem_cons_of_mem _ (in_Mo w h)) t_Mo t_Mo_ok n_Mo hown hK.1 hP hD hS 0 rfl rfl 26 (by decide) (hts _ (List.mem_cons_of_mem _ mw_1820)) (fun _ h9 => h9) rfl (by decide +kernel) rfl rfl (st_lt g72_26) d_Mo_readPlant_77 (fun H locs hP hD hS => ?_)
  have g77_17 : fx ((((((fm.set 21 (.int 0)).set 85 (.int 0)).set 86 (.int 0)).set 4 (.int 0)).set 11 (.int 0)).set 26 (.int 0)) 17 (.ref am_cleaned) := (st_ne g72_17 (by decide))
  have g77_16 : fx ((((((fm.set 21 (.int 0)).set 85 (.int 0)).set 86 (.int 0)).set 4 (.int 0)).set 11 (.int 0)).set 26 (.int 0)) 16 (.ref am_lasts) := (st_ne g72_16 (by decide))
  have g77_22 : fx ((((((fm.set 21 (.int 0)).set 85 (.int 0)).set 86 (.int 0)).set 4 (.int 0)).set 11 (.int 0)).set 26 (.int 0)) 22 (.int nn) := (st_ne g72_22 (by decide))
  have g77_86 : fx ((((((fm.set 21 (.int 0)).set 85 (.int 0)).set 86 (.int 0)).set 4 (.int 0)).set 11 (.int 0)).set 26 (.int 0)) 86 (.int 0) := (st_ne g72_86 (by decide))
  have g77_85 : fx ((((((fm.set 21 (.int 0)).set 85 (.int 0)).set 86 (.int 0)).set 4 (.int 0)).set 11 (.int 0)).set 26 (.int 0)) 85 (.int 0) := (st_ne g72_85 (by decide))
  have g77_11 : fx ((((((fm.set 21 (.int 0)).set 85 (.int 0)).set 86 (.int 0)).set 4 (.int 0)).set 11 (.int 0)).set 26 (.int 0)) 11 (.int 0) := (st_ne g72_11 (by decide))
  have g77_21 : fx ((((((fm.set 21 (.int 0)).set 85 (.int 0)).set 86 (.int 0)).set 4 (.int 0)).set 11 (.int 0)).set 26 (.int 0)) 21 (.int 0) := (st_ne g72_21 (by decide))
  have g77_59 : fx ((((((fm.set 21 (.int 0)).set 85 (.int 0)).set 86 (.int 0)).set 4 (.int 0)).set 11 (.int 0)).set 26 (.int 0)) 59 (.int 4) := (st_ne g72_59 (by decide))
  have g77_4 : fx ((((((fm.set 21 (.int 0)).set 85 (.int 0)).set 86 (.int 0)).set 4 (.int 0)).set 11 (.int 0)).set 26 (.int 0)) 4 (.int 0) := (st_ne g72_4 (by decide))
  have g77_26 : fx ((((((fm.set 21 (.int 0)).set 85 (.int 0)).set 86 (.int 0)).set 4 (.int 0)).set 11 (.int 0)).set 26 (.int 0)) 26 (.int 0) := (st_eq g72_26)
  have hP : va_P (dC, dI) classes [(oM, .inr (12, ((((((fm.set 21 (.int 0)).set 85 (.int 0)).set 86 (.int 0)).set 4 (.int 0)).set 11 (.int 0)).set 26 (.int 0)))), (am_lasts, .inl (cI, 44, .inl (fun _ => 0))), (am_cleaned, .inl (cI, 264, .inl (fun _ => 0)))] H := hP
  have hD : va_D A [(oM, .inr (12, ((((((fm.set 21 (.int 0)).set 85 (.int 0)).set 86 (.int 0)).set 4 (.int 0)).set 11 (.int 0)).set 26 (.int 0)))), (am_lasts, .inl (cI, 44, .inl (fun _ => 0))), (am_cleaned, .inl (cI, 264, .inl (fun _ => 0)))] := hD
  refine lv_aload_n hx hb d_Mo_readPlant_80 rfl (lv_at hl 0 rfl) ?_
  refine lv_iconst (v := 4) hx hb d_Mo_readPlant_81 (by decide) ?_
  refine va_put (D := (dC, dI)) (ci := 12) (v := .int 4) (ty := .int) (C := R_Mo) (T := F_Mo) (N := 87) hx hb hts (fun w h => List.mem_cons_of_mem _ (in_Mo w h)) t_Mo t_Mo_ok n_Mo hown hK.1 hP hD hS 0 rfl rfl 59 (by decide) (hts _ (List.mem_cons_of_mem _ mw_1853)) (fun _ h9 => h9) rfl (by decide +kernel) rfl rfl (st_lt g77_59) d_Mo_readPlant_82 (fun H locs hP hD hS => ?_)
  have g82_17 : fx (((((((fm.set 21 (.int 0)).set 85 (.int 0)).set 86 (.int 0)).set 4 (.int 0)).set 11 (.int 0)).set 26 (.int 0)).set 59 (.int 4)) 17 (.ref am_cleaned) := (st_ne g77_17 (by decide))
  have g82_16 : fx (((((((fm.set 21 (.int 0)).set 85 (.int 0)).set 86 (.int 0)).set 4 (.int 0)).set 11 (.int 0)).set 26 (.int 0)).set 59 (.int 4)) 16 (.ref am_lasts) := (st_ne g77_16 (by decide))
  have g82_22 : fx (((((((fm.set 21 (.int 0)).set 85 (.int 0)).set 86 (.int 0)).set 4 (.int 0)).set 11 (.int 0)).set 26 (.int 0)).set 59 (.int 4)) 22 (.int nn) := (st_ne g77_22 (by decide))
  have g82_86 : fx (((((((fm.set 21 (.int 0)).set 85 (.int 0)).set 86 (.int 0)).set 4 (.int 0)).set 11 (.int 0)).set 26 (.int 0)).set 59 (.int 4)) 86 (.int 0) := (st_ne g77_86 (by decide))
  have g82_85 : fx (((((((fm.set 21 (.int 0)).set 85 (.int 0)).set 86 (.int 0)).set 4 (.int 0)).set 11 (.int 0)).set 26 (.int 0)).set 59 (.int 4)) 85 (.int 0) := (st_ne g77_85 (by decide))
  have g82_11 : fx (((((((fm.set 21 (.int 0)).set 85 (.int 0)).set 86 (.int 0)).set 4 (.int 0)).set 11 (.int 0)).set 26 (.int 0)).set 59 (.int 4)) 11 (.int 0) := (st_ne g77_11 (by decide))
  have g82_21 : fx (((((((fm.set 21 (.int 0)).set 85 (.int 0)).set 86 (.int 0)).set 4 (.int 0)).set 11 (.int 0)).set 26 (.int 0)).set 59 (.int 4)) 21 (.int 0) := (st_ne g77_21 (by decide))
  have g82_59 : fx (((((((fm.set 21 (.int 0)).set 85 (.int 0)).set 86 (.int 0)).set 4 (.int 0)).set 11 (.int 0)).set 26 (.int 0)).set 59 (.int 4)) 59 (.int 4) := (st_eq g77_59)
  have g82_4 : fx (((((((fm.set 21 (.int 0)).set 85 (.int 0)).set 86 (.int 0)).set 4 (.int 0)).set 11 (.int 0)).set 26 (.int 0)).set 59 (.int 4)) 4 (.int 0) := (st_ne g77_4 (by decide))
  have g82_26 : fx (((((((fm.set 21 (.int 0)).set 85 (.int 0)).set 86 (.int 0)).set 4 (.int 0)).set 11 (.int 0)).set 26 (.int 0)).set 59 (.int 4)) 26 (.int 0) := (st_ne g77_26 (by decide))
  have hP : va_P (dC, dI) classes [(oM, .inr (12, (((((((fm.set 21 (.int 0)).set 85 (.int 0)).set 86 (.int 0)).set 4 (.int 0)).set 11 (.int 0)).set 26 (.int 0)).set 59 (.int 4)))), (am_lasts, .inl (cI, 44, .inl (fun _ => 0))), (am_cleaned, .inl (cI, 264, .inl (fun _ => 0)))] H := hP
  have hD : va_D A [(oM, .inr (12, (((((((fm.set 21 (.int 0)).set 85 (.int 0)).set 86 (.int 0)).set 4 (.int 0)).set 11 (.int 0)).set 26 (.int 0)).set 59 (.int 4)))), (am_lasts, .inl (cI, 44, .inl (fun _ => 0))), (am_cleaned, .inl (cI, 264, .inl (fun _ => 0)))] := hD
  refine lv_aload_n hx hb d_Mo_readPlant_85 rfl (lv_at hl 0 rfl) ?_
  refine lv_iconst (v := 0) hx hb d_Mo_readPlant_86 (by decide) ?_
  refine va_put (D := (dC, dI)) (ci := 12) (v := .int 0) (ty := .int) (C := R_Mo) (T := F_Mo) (N := 87) hx hb hts (fun w h => List.mem_cons_of_mem _ (in_Mo w h)) t_Mo t_Mo_ok n_Mo hown hK.1 hP hD hS 0 rfl rfl 21 (by decide) (hts _ (List.mem_cons_of_mem _ mw_1815)) (fun _ h9 => h9) rfl (by decide +kernel) rfl rfl (st_lt g82_21) d_Mo_readPlant_87 (fun H locs hP hD hS => ?_)
  have g87_17 : fx ((((((((fm.set 21 (.int 0)).set 85 (.int 0)).set 86 (.int 0)).set 4 (.int 0)).set 11 (.int 0)).set 26 (.int 0)).set 59 (.int 4)).set 21 (.int 0)) 17 (.ref am_cleaned) := (st_ne g82_17 (by decide))
  have g87_16 : fx ((((((((fm.set 21 (.int 0)).set 85 (.int 0)).set 86 (.int 0)).set 4 (.int 0)).set 11 (.int 0)).set 26 (.int 0)).set 59 (.int 4)).set 21 (.int 0)) 16 (.ref am_lasts) := (st_ne g82_16 (by decide))
  have g87_22 : fx ((((((((fm.set 21 (.int 0)).set 85 (.int 0)).set 86 (.int 0)).set 4 (.int 0)).set 11 (.int 0)).set 26 (.int 0)).set 59 (.int 4)).set 21 (.int 0)) 22 (.int nn) := (st_ne g82_22 (by decide))
  have g87_86 : fx ((((((((fm.set 21 (.int 0)).set 85 (.int 0)).set 86 (.int 0)).set 4 (.int 0)).set 11 (.int 0)).set 26 (.int 0)).set 59 (.int 4)).set 21 (.int 0)) 86 (.int 0) := (st_ne g82_86 (by decide))
  have g87_85 : fx ((((((((fm.set 21 (.int 0)).set 85 (.int 0)).set 86 (.int 0)).set 4 (.int 0)).set 11 (.int 0)).set 26 (.int 0)).set 59 (.int 4)).set 21 (.int 0)) 85 (.int 0) := (st_ne g82_85 (by decide))
  have g87_11 : fx ((((((((fm.set 21 (.int 0)).set 85 (.int 0)).set 86 (.int 0)).set 4 (.int 0)).set 11 (.int 0)).set 26 (.int 0)).set 59 (.int 4)).set 21 (.int 0)) 11 (.int 0) := (st_ne g82_11 (by decide))
  have g87_21 : fx ((((((((fm.set 21 (.int 0)).set 85 (.int 0)).set 86 (.int 0)).set 4 (.int 0)).set 11 (.int 0)).set 26 (.int 0)).set 59 (.int 4)).set 21 (.int 0)) 21 (.int 0) := (st_eq g82_21)
  have g87_59 : fx ((((((((fm.set 21 (.int 0)).set 85 (.int 0)).set 86 (.int 0)).set 4 (.int 0)).set 11 (.int 0)).set 26 (.int 0)).set 59 (.int 4)).set 21 (.int 0)) 59 (.int 4) := (st_ne g82_59 (by decide))
  have g87_4 : fx ((((((((fm.set 21 (.int 0)).set 85 (.int 0)).set 86 (.int 0)).set 4 (.int 0)).set 11 (.int 0)).set 26 (.int 0)).set 59 (.int 4)).set 21 (.int 0)) 4 (.int 0) := (st_ne g82_4 (by decide))
  have g87_26 : fx ((((((((fm.set 21 (.int 0)).set 85 (.int 0)).set 86 (.int 0)).set 4 (.int 0)).set 11 (.int 0)).set 26 (.int 0)).set 59 (.int 4)).set 21 (.int 0)) 26 (.int 0) := (st_ne g82_26 (by decide))
  have hP : va_P (dC, dI) classes [(oM, .inr (12, ((((((((fm.set 21 (.int 0)).set 85 (.int 0)).set 86 (.int 0)).set 4 (.int 0)).set 11 (.int 0)).set 26 (.int 0)).set 59 (.int 4)).set 21 (.int 0)))), (am_lasts, .inl (cI, 44, .inl (fun _ => 0))), (am_cleaned, .inl (cI, 264, .inl (fun _ => 0)))] H := hP
  have hD : va_D A [(oM, .inr (12, ((((((((fm.set 21 (.int 0)).set 85 (.int 0)).set 86 (.int 0)).set 4 (.int 0)).set 11 (.int 0)).set 26 (.int 0)).set 59 (.int 4)).set 21 (.int 0)))), (am_lasts, .inl (cI, 44, .inl (fun _ => 0))), (am_cleaned, .inl (cI, 264, .inl (fun _ => 0)))] := hD
  refine lv_aload_n hx hb d_Mo_readPlant_90 rfl (lv_at hl 0 rfl) ?_
  refine va_get (D := (dC, dI)) (ci := 12) (v := .int 0) (C := R_Mo) (T := F_Mo) (N := 87) hx hb hts (fun w h => List.mem_cons_of_mem _ (in_Mo w h)) hown hK.1 hP 0 rfl rfl 21 (by decide) (hts _ (List.mem_cons_of_mem _ mw_1815)) (fun _ h9 => h9) g87_21 d_Mo_readPlant_91 ?_
  refine lv_aload_n hx hb d_Mo_readPlant_94 rfl (lv_at hl 0 rfl) ?_
  refine va_get (D := (dC, dI)) (ci := 12) (v := .int nn) (C := R_Mo) (T := F_Mo) (N := 87) hx hb hts (fun w h => List.mem_cons_of_mem _ (in_Mo w h)) hown hK.1 hP 0 rfl rfl 22 (by decide) (hts _ (List.mem_cons_of_mem _ mw_1816)) (fun _ h9 => h9) g87_22 d_Mo_readPlant_95 ?_
  refine lv_icmp_ge (tgt := 124) hx hb d_Mo_readPlant_98 (by decide) (fun _ => ?_) (fun h => absurd (nu_le hnn (by decide)) h)
  refine lv_iconst (v := 0) hx hb d_Mo_readPlant_124 (by decide) ?_
  refine lv_istore_n hx hb d_Mo_readPlant_125 rfl hl (by decide) rfl (fun ls hl => ?_)
  have hl : lv_has ls 2 [(1, .int 0), (0, .ref oM)] := hl
  have hl : lv_has ls 2 [(1, .int (nI 0)), (0, .ref oM)] := lv_sub hl [0, 1] rfl
  refine lp_ind (σ := (Nat → Int32) × (Nat → Int32)) (fun i x H locs ls => va_P (dC, dI) classes [(oM, .inr (12, ((((((((fm.set 21 (.int 0)).set 85 (.int 0)).set 86 (.int 0)).set 4 (.int 0)).set 11 (.int 0)).set 26 (.int 0)).set 59 (.int 4)).set 21 (.int 0)))), (am_lasts, .inl (cI, 44, .inl x.1)), (am_cleaned, .inl (cI, 264, .inl x.2))] H ∧ va_D A [(oM, .inr (12, ((((((((fm.set 21 (.int 0)).set 85 (.int 0)).set 86 (.int 0)).set 4 (.int 0)).set 11 (.int 0)).set 26 (.int 0)).set 59 (.int 4)).set 21 (.int 0)))), (am_lasts, .inl (cI, 44, .inl x.1)), (am_cleaned, .inl (cI, 264, .inl x.2))] ∧ va_S A s.heap H locs ∧ lv_has ls 2 [(1, .int (nI i)), (0, .ref oM)]) 126 44 ?_ ?_ 0 ((fun _ => 0), (fun _ => 0)) _ _ _ (Nat.zero_le _) ⟨hP, hD, hS, hl⟩
  · intro i x H locs ls hi hI hki
    obtain ⟨xi_1, xi_2⟩ := x
    obtain ⟨hP, hD, hS, hl⟩ := hI
    have hP : va_P (dC, dI) classes [(oM, .inr (12, ((((((((fm.set 21 (.int 0)).set 85 (.int 0)).set 86 (.int 0)).set 4 (.int 0)).set 11 (.int 0)).set 26 (.int 0)).set 59 (.int 4)).set 21 (.int 0)))), (am_lasts, .inl (cI, 44, .inl xi_1)), (am_cleaned, .inl (cI, 264, .inl xi_2))] H := hP
    have hD : va_D A [(oM, .inr (12, ((((((((fm.set 21 (.int 0)).set 85 (.int 0)).set 86 (.int 0)).set 4 (.int 0)).set 11 (.int 0)).set 26 (.int 0)).set 59 (.int 4)).set 21 (.int 0)))), (am_lasts, .inl (cI, 44, .inl xi_1)), (am_cleaned, .inl (cI, 264, .inl xi_2))] := hD
    have hl : lv_has ls 2 [(1, .int (nI i)), (0, .ref oM)] := hl
    refine lv_iload_n hx hb d_Mo_readPlant_126 rfl (lv_at hl 0 rfl) ?_
    refine lv_bipush (v := 44) hx hb d_Mo_readPlant_127 (by decide) ?_
    refine lv_icmp_ge (tgt := 150) hx hb d_Mo_readPlant_129 (by decide) (fun h => absurd h (show ¬ (44 : Int32) ≤ nI i from nI_ge hi (by decide))) (fun _ => ?_)
    refine lv_aload_n hx hb d_Mo_readPlant_132 rfl (lv_at hl 1 rfl) ?_
    refine va_get (D := (dC, dI)) (ci := 12) (v := .ref am_lasts) (C := R_Mo) (T := F_Mo) (N := 87) hx hb hts (fun w h => List.mem_cons_of_mem _ (in_Mo w h)) hown hK.1 hP 0 rfl rfl 16 (by decide) (hts _ (List.mem_cons_of_mem _ mw_1810)) (fun _ h9 => h9) g87_16 d_Mo_readPlant_133 ?_
    refine lv_iload_n hx hb d_Mo_readPlant_136 rfl (lv_at hl 0 rfl) ?_
    refine lv_iconst (v := 0) hx hb d_Mo_readPlant_137 (by decide) ?_
    refine va_iast hx hb hK.1 hP hD hS 1 0 rfl rfl (vp_in_nI hi (by decide)) d_Mo_readPlant_138 (fun H locs hP hD hS => ?_)
    have hP : va_P (dC, dI) classes [(oM, .inr (12, ((((((((fm.set 21 (.int 0)).set 85 (.int 0)).set 86 (.int 0)).set 4 (.int 0)).set 11 (.int 0)).set 26 (.int 0)).set 59 (.int 4)).set 21 (.int 0)))), (am_lasts, .inl (cI, 44, .inl ((upd xi_1 ((nI i) : Int32).toNatClampNeg 0)))), (am_cleaned, .inl (cI, 264, .inl xi_2))] H := hP
    have hD : va_D A [(oM, .inr (12, ((((((((fm.set 21 (.int 0)).set 85 (.int 0)).set 86 (.int 0)).set 4 (.int 0)).set 11 (.int 0)).set 26 (.int 0)).set 59 (.int 4)).set 21 (.int 0)))), (am_lasts, .inl (cI, 44, .inl ((upd xi_1 ((nI i) : Int32).toNatClampNeg 0)))), (am_cleaned, .inl (cI, 264, .inl xi_2))] := hD
    generalize (upd xi_1 ((nI i) : Int32).toNatClampNeg 0) = f138_9 at hP hD
    refine lv_aload_n hx hb d_Mo_readPlant_139 rfl (lv_at hl 1 rfl) ?_
    refine lv_iload_n hx hb d_Mo_readPlant_140 rfl (lv_at hl 0 rfl) ?_
    have hPc := hP.sub (ws' := [(oM, .inr (12, ((((((((fm.set 21 (.int 0)).set 85 (.int 0)).set 86 (.int 0)).set 4 (.int 0)).set 11 (.int 0)).set 26 (.int 0)).set 59 (.int 4)).set 21 (.int 0)))), (am_cleaned, .inl (cI, 264, .inl xi_2))]) [0, 2] rfl
    have hDc := hD.sub (ws' := [(oM, .inr (12, ((((((((fm.set 21 (.int 0)).set 85 (.int 0)).set 86 (.int 0)).set 4 (.int 0)).set 11 (.int 0)).set 26 (.int 0)).set 59 (.int 4)).set 21 (.int 0)))), (am_cleaned, .inl (cI, 264, .inl xi_2))]) [0, 2] (by decide) rfl
    have hFc := va_free (wc := [(oM, .inr (12, ((((((((fm.set 21 (.int 0)).set 85 (.int 0)).set 86 (.int 0)).set 4 (.int 0)).set 11 (.int 0)).set 26 (.int 0)).set 59 (.int 4)).set 21 (.int 0)))), (am_cleaned, .inl (cI, 264, .inl xi_2))]) hD hS hA [0, 2] rfl
    refine va_callv (va_runV (C := R_Mo) (As := [.int (nI i)]) (rest := []) ⟨hx, hb, hml, hown, hts⟩ (c_Mo_forget l dC dI cI cB cZ cJ (nI i) ((nI_pos (Nat.lt_trans hi (by decide)))) ((show ¬ (43 : Int32) < nI i from nI_nlt (a := 43) (b := i) (by omega) (by omega))) oM am_cleaned xi_2 (((((((((fm.set 21 (.int 0)).set 85 (.int 0)).set 86 (.int 0)).set 4 (.int 0)).set 11 (.int 0)).set 26 (.int 0)).set 59 (.int 4)).set 21 (.int 0))) g87_17 H.size) (cwV 1 hts (tb_V mw_2103 mw_2105 sl_96 mw_18 mw_2106) rfl rfl rfl ⟨rfl, by decide +kernel, by decide +kernel, by decide +kernel⟩ ⟨(Nat.le_of_ble_eq_true rfl), (Nat.le_of_ble_eq_true rfl)⟩) ⟨pw_blind, va_recv (q := (R_Mo, F_Mo, 87)) hK.1 hP (ci := 12) (q0 := 0) rfl rfl, pw_pre hPc hK hDc⟩ rfl rfl hl.1 rfl (lv_room (Nat.le_of_ble_eq_true rfl)) d_Mo_readPlant_141 ⟨(Nat.le_of_ble_eq_true rfl), (Nat.le_of_ble_eq_true rfl)⟩) hS (fun q _ h => hFc q h) hFc (fun u t H locs ht hvm hw hB hz1 hk1 hS => ?_)
    obtain ⟨f141_10_am_cleaned, k141_10_oM_17, hP1, hD1⟩ := hB
    rw [ht] at hP1
    obtain ⟨hP, hD⟩ := va_join (wr := [(am_lasts, .inl (cI, 44, .inl f138_9))]) (w1 := [(oM, .inr (12, ((((((((fm.set 21 (.int 0)).set 85 (.int 0)).set 86 (.int 0)).set 4 (.int 0)).set 11 (.int 0)).set 26 (.int 0)).set 59 (.int 4)).set 21 (.int 0)))), (am_cleaned, .inl (cI, 264, .inl f141_10_am_cleaned))]) hP hD [0, 2] [1] rfl rfl (by decide) (by decide) hk1 hFc hP1 hD1
    have hP : va_P (dC, dI) classes [(am_lasts, .inl (cI, 44, .inl f138_9)), (oM, .inr (12, ((((((((fm.set 21 (.int 0)).set 85 (.int 0)).set 86 (.int 0)).set 4 (.int 0)).set 11 (.int 0)).set 26 (.int 0)).set 59 (.int 4)).set 21 (.int 0)))), (am_cleaned, .inl (cI, 264, .inl f141_10_am_cleaned))] H := hP
    have hD : va_D A [(am_lasts, .inl (cI, 44, .inl f138_9)), (oM, .inr (12, ((((((((fm.set 21 (.int 0)).set 85 (.int 0)).set 86 (.int 0)).set 4 (.int 0)).set 11 (.int 0)).set 26 (.int 0)).set 59 (.int 4)).set 21 (.int 0)))), (am_cleaned, .inl (cI, 264, .inl f141_10_am_cleaned))] := hD
    refine lv_iinc (k := 0) (v := (nI (i + 1))) hx hb d_Mo_readPlant_144 hl rfl (by first | rfl | decide | exact nI_1 i | exact pv_1 j hj) (by decide) rfl (fun ls hl => ?_)
    have hl : lv_has ls 2 [(1, .int (nI (i + 1))), (0, .ref oM)] := hl
    refine lv_goto (tgt := 126) hx hb d_Mo_readPlant_147 (by decide) ?_
    have hP := hP.sub (ws' := [(oM, .inr (12, ((((((((fm.set 21 (.int 0)).set 85 (.int 0)).set 86 (.int 0)).set 4 (.int 0)).set 11 (.int 0)).set 26 (.int 0)).set 59 (.int 4)).set 21 (.int 0)))), (am_lasts, .inl (cI, 44, .inl f138_9)), (am_cleaned, .inl (cI, 264, .inl f141_10_am_cleaned))]) [1, 0, 2] rfl
    have hD := hD.sub (ws' := [(oM, .inr (12, ((((((((fm.set 21 (.int 0)).set 85 (.int 0)).set 86 (.int 0)).set 4 (.int 0)).set 11 (.int 0)).set 26 (.int 0)).set 59 (.int 4)).set 21 (.int 0)))), (am_lasts, .inl (cI, 44, .inl f138_9)), (am_cleaned, .inl (cI, 264, .inl f141_10_am_cleaned))]) [1, 0, 2] (by decide) rfl
    have hl : lv_has ls 2 [(1, .int (nI (i + 1))), (0, .ref oM)] := lv_sub hl [0, 1] rfl
    exact hki (f138_9, f141_10_am_cleaned) H locs ls ⟨hP, hD, hS, hl⟩
  · intro x H locs ls hI
    obtain ⟨xi_1, xi_2⟩ := x
    obtain ⟨hP, hD, hS, hl⟩ := hI
    have hP : va_P (dC, dI) classes [(oM, .inr (12, ((((((((fm.set 21 (.int 0)).set 85 (.int 0)).set 86 (.int 0)).set 4 (.int 0)).set 11 (.int 0)).set 26 (.int 0)).set 59 (.int 4)).set 21 (.int 0)))), (am_lasts, .inl (cI, 44, .inl xi_1)), (am_cleaned, .inl (cI, 264, .inl xi_2))] H := hP
    have hD : va_D A [(oM, .inr (12, ((((((((fm.set 21 (.int 0)).set 85 (.int 0)).set 86 (.int 0)).set 4 (.int 0)).set 11 (.int 0)).set 26 (.int 0)).set 59 (.int 4)).set 21 (.int 0)))), (am_lasts, .inl (cI, 44, .inl xi_1)), (am_cleaned, .inl (cI, 264, .inl xi_2))] := hD
    have hl : lv_has ls 2 [(1, .int (nI 44)), (0, .ref oM)] := hl
    refine lv_iload_n hx hb d_Mo_readPlant_126 rfl (lv_at hl 0 rfl) ?_
    refine lv_bipush (v := 44) hx hb d_Mo_readPlant_127 (by decide) ?_
    refine lv_icmp_ge (tgt := 150) hx hb d_Mo_readPlant_129 (by decide) (fun _ => ?_) (fun h => absurd (show (44 : Int32) ≤ nI 44 from nI_le (Nat.le_refl _) (by decide)) h)
    refine lv_aload_n hx hb d_Mo_readPlant_150 rfl (lv_at hl 1 rfl) ?_
    refine va_get (D := (dC, dI)) (ci := 12) (v := .int 0) (C := R_Mo) (T := F_Mo) (N := 87) hx hb hts (fun w h => List.mem_cons_of_mem _ (in_Mo w h)) hown hK.1 hP 0 rfl rfl 4 (by decide) (hts _ (List.mem_cons_of_mem _ mw_1798)) (fun _ h9 => h9) g87_4 d_Mo_readPlant_151 ?_
    exact W.iret (v := 0) hx hb hr (fun t ht hW => ⟨⟨_, (), rfl, (rfl), trivial⟩, hS.F ht⟩) hS.2.2 d_Mo_readPlant_154
abbrev t_Mo_end_236 : List UInt8 := 172 :: []
abbrev t_Mo_end_234 : List UInt8 := 21 :: 4 :: t_Mo_end_236
abbrev t_Mo_end_231 : List UInt8 := 167 :: 0 :: 5 :: t_Mo_end_234
abbrev t_Mo_end_230 : List UInt8 := 100 :: t_Mo_end_231
abbrev t_Mo_end_229 : List UInt8 := 5 :: t_Mo_end_230
abbrev t_Mo_end_227 : List UInt8 := 21 :: 4 :: t_Mo_end_229
abbrev t_Mo_end_224 : List UInt8 := 156 :: 0 :: 10 :: t_Mo_end_227
abbrev t_Mo_end_222 : List UInt8 := 21 :: 4 :: t_Mo_end_224
abbrev t_Mo_end_219 : List UInt8 := 167 :: 255 :: 230 :: t_Mo_end_222
abbrev t_Mo_end_216 : List UInt8 := 132 :: 5 :: 1 :: t_Mo_end_219
abbrev t_Mo_end_215 : List UInt8 := 80 :: t_Mo_end_216
abbrev t_Mo_end_214 : List UInt8 := 9 :: t_Mo_end_215
abbrev t_Mo_end_212 : List UInt8 := 21 :: 5 :: t_Mo_end_214
abbrev t_Mo_end_209 : List UInt8 := 180 :: 0 :: 159 :: t_Mo_end_212
abbrev t_Mo_end_208 : List UInt8 := 42 :: t_Mo_end_209
abbrev t_Mo_end_207 : List UInt8 := 79 :: t_Mo_end_208
abbrev t_Mo_end_206 : List UInt8 := 2 :: t_Mo_end_207
abbrev t_Mo_end_204 : List UInt8 := 21 :: 5 :: t_Mo_end_206
abbrev t_Mo_end_201 : List UInt8 := 180 :: 0 :: 144 :: t_Mo_end_204
abbrev t_Mo_end_200 : List UInt8 := 42 :: t_Mo_end_201
abbrev t_Mo_end_197 : List UInt8 := 162 :: 0 :: 25 :: t_Mo_end_200
abbrev t_Mo_end_195 : List UInt8 := 16 :: 40 :: t_Mo_end_197
abbrev t_Mo_end_193 : List UInt8 := 21 :: 5 :: t_Mo_end_195
abbrev t_Mo_end_191 : List UInt8 := 54 :: 5 :: t_Mo_end_193
abbrev t_Mo_end_190 : List UInt8 := 3 :: t_Mo_end_191
abbrev t_Mo_end_187 : List UInt8 := 182 :: 0 :: 231 :: t_Mo_end_190
abbrev t_Mo_end_186 : List UInt8 := 42 :: t_Mo_end_187
abbrev t_Mo_end_183 : List UInt8 := 181 :: 0 :: 162 :: t_Mo_end_186
abbrev t_Mo_end_182 : List UInt8 := 7 :: t_Mo_end_183
abbrev t_Mo_end_181 : List UInt8 := 42 :: t_Mo_end_182
abbrev t_Mo_end_178 : List UInt8 := 155 :: 0 :: 44 :: t_Mo_end_181
abbrev t_Mo_end_176 : List UInt8 := 21 :: 4 :: t_Mo_end_178
abbrev t_Mo_end_173 : List UInt8 := 160 :: 0 :: 49 :: t_Mo_end_176
abbrev t_Mo_end_172 : List UInt8 := 5 :: t_Mo_end_173
abbrev t_Mo_end_171 : List UInt8 := 27 :: t_Mo_end_172
abbrev t_Mo_end_169 : List UInt8 := 54 :: 4 :: t_Mo_end_171
abbrev t_Mo_end_166 : List UInt8 := 182 :: 0 :: 230 :: t_Mo_end_169
abbrev t_Mo_end_163 : List UInt8 := 180 :: 0 :: 16 :: t_Mo_end_166
abbrev t_Mo_end_162 : List UInt8 := 42 :: t_Mo_end_163
abbrev t_Mo_end_159 : List UInt8 := 167 :: 0 :: 10 :: t_Mo_end_162
abbrev t_Mo_end_156 : List UInt8 := 182 :: 0 :: 227 :: t_Mo_end_159
abbrev t_Mo_end_153 : List UInt8 := 180 :: 0 :: 23 :: t_Mo_end_156
abbrev t_Mo_end_152 : List UInt8 := 42 :: t_Mo_end_153
abbrev t_Mo_end_149 : List UInt8 := 160 :: 0 :: 13 :: t_Mo_end_152
abbrev t_Mo_end_148 : List UInt8 := 4 :: t_Mo_end_149
abbrev t_Mo_end_147 : List UInt8 := 27 :: t_Mo_end_148
abbrev t_Mo_end_144 : List UInt8 := 167 :: 255 :: 209 :: t_Mo_end_147
abbrev t_Mo_end_141 : List UInt8 := 132 :: 4 :: 1 :: t_Mo_end_144
abbrev t_Mo_end_139 : List UInt8 := 54 :: 5 :: t_Mo_end_141
abbrev t_Mo_end_136 : List UInt8 := 182 :: 0 :: 226 :: t_Mo_end_139
abbrev t_Mo_end_135 : List UInt8 := 51 :: t_Mo_end_136
abbrev t_Mo_end_133 : List UInt8 := 21 :: 4 :: t_Mo_end_135
abbrev t_Mo_end_130 : List UInt8 := 180 :: 0 :: 9 :: t_Mo_end_133
abbrev t_Mo_end_129 : List UInt8 := 42 :: t_Mo_end_130
abbrev t_Mo_end_126 : List UInt8 := 180 :: 0 :: 16 :: t_Mo_end_129
abbrev t_Mo_end_125 : List UInt8 := 42 :: t_Mo_end_126
abbrev t_Mo_end_122 : List UInt8 := 167 :: 0 :: 17 :: t_Mo_end_125
abbrev t_Mo_end_119 : List UInt8 := 182 :: 0 :: 222 :: t_Mo_end_122
abbrev t_Mo_end_118 : List UInt8 := 51 :: t_Mo_end_119
abbrev t_Mo_end_116 : List UInt8 := 21 :: 4 :: t_Mo_end_118
abbrev t_Mo_end_113 : List UInt8 := 180 :: 0 :: 9 :: t_Mo_end_116
abbrev t_Mo_end_112 : List UInt8 := 42 :: t_Mo_end_113
abbrev t_Mo_end_109 : List UInt8 := 180 :: 0 :: 23 :: t_Mo_end_112
abbrev t_Mo_end_108 : List UInt8 := 42 :: t_Mo_end_109
abbrev t_Mo_end_105 : List UInt8 := 160 :: 0 :: 20 :: t_Mo_end_108
abbrev t_Mo_end_104 : List UInt8 := 4 :: t_Mo_end_105
abbrev t_Mo_end_103 : List UInt8 := 27 :: t_Mo_end_104
abbrev t_Mo_end_100 : List UInt8 := 162 :: 0 :: 47 :: t_Mo_end_103
abbrev t_Mo_end_99 : List UInt8 := 28 :: t_Mo_end_100
abbrev t_Mo_end_97 : List UInt8 := 21 :: 4 :: t_Mo_end_99
abbrev t_Mo_end_95 : List UInt8 := 54 :: 4 :: t_Mo_end_97
abbrev t_Mo_end_94 : List UInt8 := 3 :: t_Mo_end_95
abbrev t_Mo_end_93 : List UInt8 := 172 :: t_Mo_end_94
abbrev t_Mo_end_90 : List UInt8 := 182 :: 0 :: 218 :: t_Mo_end_93
abbrev t_Mo_end_89 : List UInt8 := 42 :: t_Mo_end_90
abbrev t_Mo_end_86 : List UInt8 := 181 :: 0 :: 215 :: t_Mo_end_89
abbrev t_Mo_end_85 : List UInt8 := 28 :: t_Mo_end_86
abbrev t_Mo_end_84 : List UInt8 := 42 :: t_Mo_end_85
abbrev t_Mo_end_81 : List UInt8 := 154 :: 0 :: 13 :: t_Mo_end_84
abbrev t_Mo_end_80 : List UInt8 := 27 :: t_Mo_end_81
abbrev t_Mo_end_79 : List UInt8 := 172 :: t_Mo_end_80
abbrev t_Mo_end_78 : List UInt8 := 2 :: t_Mo_end_79
abbrev t_Mo_end_75 : List UInt8 := 154 :: 0 :: 5 :: t_Mo_end_78
abbrev t_Mo_end_74 : List UInt8 := 29 :: t_Mo_end_75
abbrev t_Mo_end_71 : List UInt8 := 181 :: 0 :: 212 :: t_Mo_end_74
abbrev t_Mo_end_70 : List UInt8 := 3 :: t_Mo_end_71
abbrev t_Mo_end_69 : List UInt8 := 42 :: t_Mo_end_70
abbrev t_Mo_end_66 : List UInt8 := 167 :: 255 :: 227 :: t_Mo_end_69
abbrev t_Mo_end_63 : List UInt8 := 132 :: 4 :: 1 :: t_Mo_end_66
abbrev t_Mo_end_62 : List UInt8 := 62 :: t_Mo_end_63
abbrev t_Mo_end_61 : List UInt8 := 3 :: t_Mo_end_62
abbrev t_Mo_end_58 : List UInt8 := 167 :: 0 :: 4 :: t_Mo_end_61
abbrev t_Mo_end_57 : List UInt8 := 4 :: t_Mo_end_58
abbrev t_Mo_end_54 : List UInt8 := 158 :: 0 :: 7 :: t_Mo_end_57
abbrev t_Mo_end_53 : List UInt8 := 51 :: t_Mo_end_54
abbrev t_Mo_end_51 : List UInt8 := 21 :: 4 :: t_Mo_end_53
abbrev t_Mo_end_48 : List UInt8 := 180 :: 0 :: 9 :: t_Mo_end_51
abbrev t_Mo_end_47 : List UInt8 := 42 :: t_Mo_end_48
abbrev t_Mo_end_44 : List UInt8 := 153 :: 0 :: 25 :: t_Mo_end_47
abbrev t_Mo_end_43 : List UInt8 := 29 :: t_Mo_end_44
abbrev t_Mo_end_40 : List UInt8 := 162 :: 0 :: 29 :: t_Mo_end_43
abbrev t_Mo_end_39 : List UInt8 := 28 :: t_Mo_end_40
abbrev t_Mo_end_37 : List UInt8 := 21 :: 4 :: t_Mo_end_39
abbrev t_Mo_end_35 : List UInt8 := 54 :: 4 :: t_Mo_end_37
abbrev t_Mo_end_34 : List UInt8 := 3 :: t_Mo_end_35
abbrev t_Mo_end_33 : List UInt8 := 62 :: t_Mo_end_34
abbrev t_Mo_end_32 : List UInt8 := 3 :: t_Mo_end_33
abbrev t_Mo_end_29 : List UInt8 := 167 :: 0 :: 4 :: t_Mo_end_32
abbrev t_Mo_end_28 : List UInt8 := 4 :: t_Mo_end_29
abbrev t_Mo_end_25 : List UInt8 := 163 :: 0 :: 7 :: t_Mo_end_28
abbrev t_Mo_end_22 : List UInt8 := 180 :: 0 :: 212 :: t_Mo_end_25
abbrev t_Mo_end_21 : List UInt8 := 42 :: t_Mo_end_22
abbrev t_Mo_end_20 : List UInt8 := 28 :: t_Mo_end_21
abbrev t_Mo_end_17 : List UInt8 := 163 :: 0 :: 15 :: t_Mo_end_20
abbrev t_Mo_end_14 : List UInt8 := 17 :: 15 :: 160 :: t_Mo_end_17
abbrev t_Mo_end_13 : List UInt8 := 28 :: t_Mo_end_14
abbrev t_Mo_end_10 : List UInt8 := 155 :: 0 :: 22 :: t_Mo_end_13
abbrev t_Mo_end_9 : List UInt8 := 28 :: t_Mo_end_10
abbrev t_Mo_end_6 : List UInt8 := 163 :: 0 :: 26 :: t_Mo_end_9
abbrev t_Mo_end_5 : List UInt8 := 5 :: t_Mo_end_6
abbrev t_Mo_end_4 : List UInt8 := 27 :: t_Mo_end_5
abbrev t_Mo_end_1 : List UInt8 := 155 :: 0 :: 31 :: t_Mo_end_4
abbrev t_Mo_end_0 : List UInt8 := 27 :: t_Mo_end_1
theorem a_Mo_end_0 : dk_at b_Mo_end 0 t_Mo_end_0 := dk_start (by decide +kernel)
theorem a_Mo_end_1 : dk_at b_Mo_end 1 t_Mo_end_1 := dk_go 1 a_Mo_end_0 rfl
theorem a_Mo_end_4 : dk_at b_Mo_end 4 t_Mo_end_4 := dk_go 3 a_Mo_end_1 rfl
theorem a_Mo_end_5 : dk_at b_Mo_end 5 t_Mo_end_5 := dk_go 1 a_Mo_end_4 rfl
theorem a_Mo_end_6 : dk_at b_Mo_end 6 t_Mo_end_6 := dk_go 1 a_Mo_end_5 rfl
theorem a_Mo_end_9 : dk_at b_Mo_end 9 t_Mo_end_9 := dk_go 3 a_Mo_end_6 rfl
theorem a_Mo_end_10 : dk_at b_Mo_end 10 t_Mo_end_10 := dk_go 1 a_Mo_end_9 rfl
theorem a_Mo_end_13 : dk_at b_Mo_end 13 t_Mo_end_13 := dk_go 3 a_Mo_end_10 rfl
theorem a_Mo_end_14 : dk_at b_Mo_end 14 t_Mo_end_14 := dk_go 1 a_Mo_end_13 rfl
theorem a_Mo_end_17 : dk_at b_Mo_end 17 t_Mo_end_17 := dk_go 3 a_Mo_end_14 rfl
theorem a_Mo_end_20 : dk_at b_Mo_end 20 t_Mo_end_20 := dk_go 3 a_Mo_end_17 rfl
theorem a_Mo_end_21 : dk_at b_Mo_end 21 t_Mo_end_21 := dk_go 1 a_Mo_end_20 rfl
theorem a_Mo_end_22 : dk_at b_Mo_end 22 t_Mo_end_22 := dk_go 1 a_Mo_end_21 rfl
theorem a_Mo_end_25 : dk_at b_Mo_end 25 t_Mo_end_25 := dk_go 3 a_Mo_end_22 rfl
theorem a_Mo_end_28 : dk_at b_Mo_end 28 t_Mo_end_28 := dk_go 3 a_Mo_end_25 rfl
theorem a_Mo_end_29 : dk_at b_Mo_end 29 t_Mo_end_29 := dk_go 1 a_Mo_end_28 rfl
theorem a_Mo_end_32 : dk_at b_Mo_end 32 t_Mo_end_32 := dk_go 3 a_Mo_end_29 rfl
theorem a_Mo_end_33 : dk_at b_Mo_end 33 t_Mo_end_33 := dk_go 1 a_Mo_end_32 rfl
theorem a_Mo_end_34 : dk_at b_Mo_end 34 t_Mo_end_34 := dk_go 1 a_Mo_end_33 rfl
theorem a_Mo_end_35 : dk_at b_Mo_end 35 t_Mo_end_35 := dk_go 1 a_Mo_end_34 rfl
theorem a_Mo_end_37 : dk_at b_Mo_end 37 t_Mo_end_37 := dk_go 2 a_Mo_end_35 rfl
theorem a_Mo_end_39 : dk_at b_Mo_end 39 t_Mo_end_39 := dk_go 2 a_Mo_end_37 rfl
theorem a_Mo_end_40 : dk_at b_Mo_end 40 t_Mo_end_40 := dk_go 1 a_Mo_end_39 rfl
theorem a_Mo_end_43 : dk_at b_Mo_end 43 t_Mo_end_43 := dk_go 3 a_Mo_end_40 rfl
theorem a_Mo_end_44 : dk_at b_Mo_end 44 t_Mo_end_44 := dk_go 1 a_Mo_end_43 rfl
theorem a_Mo_end_47 : dk_at b_Mo_end 47 t_Mo_end_47 := dk_go 3 a_Mo_end_44 rfl
theorem a_Mo_end_48 : dk_at b_Mo_end 48 t_Mo_end_48 := dk_go 1 a_Mo_end_47 rfl
theorem a_Mo_end_51 : dk_at b_Mo_end 51 t_Mo_end_51 := dk_go 3 a_Mo_end_48 rfl
theorem a_Mo_end_53 : dk_at b_Mo_end 53 t_Mo_end_53 := dk_go 2 a_Mo_end_51 rfl
theorem a_Mo_end_54 : dk_at b_Mo_end 54 t_Mo_end_54 := dk_go 1 a_Mo_end_53 rfl
theorem a_Mo_end_57 : dk_at b_Mo_end 57 t_Mo_end_57 := dk_go 3 a_Mo_end_54 rfl
theorem a_Mo_end_58 : dk_at b_Mo_end 58 t_Mo_end_58 := dk_go 1 a_Mo_end_57 rfl
theorem a_Mo_end_61 : dk_at b_Mo_end 61 t_Mo_end_61 := dk_go 3 a_Mo_end_58 rfl
theorem a_Mo_end_62 : dk_at b_Mo_end 62 t_Mo_end_62 := dk_go 1 a_Mo_end_61 rfl
theorem a_Mo_end_63 : dk_at b_Mo_end 63 t_Mo_end_63 := dk_go 1 a_Mo_end_62 rfl
theorem a_Mo_end_66 : dk_at b_Mo_end 66 t_Mo_end_66 := dk_go 3 a_Mo_end_63 rfl
theorem a_Mo_end_69 : dk_at b_Mo_end 69 t_Mo_end_69 := dk_go 3 a_Mo_end_66 rfl
theorem a_Mo_end_70 : dk_at b_Mo_end 70 t_Mo_end_70 := dk_go 1 a_Mo_end_69 rfl
theorem a_Mo_end_71 : dk_at b_Mo_end 71 t_Mo_end_71 := dk_go 1 a_Mo_end_70 rfl
theorem a_Mo_end_74 : dk_at b_Mo_end 74 t_Mo_end_74 := dk_go 3 a_Mo_end_71 rfl
theorem a_Mo_end_75 : dk_at b_Mo_end 75 t_Mo_end_75 := dk_go 1 a_Mo_end_74 rfl
theorem a_Mo_end_78 : dk_at b_Mo_end 78 t_Mo_end_78 := dk_go 3 a_Mo_end_75 rfl
theorem a_Mo_end_79 : dk_at b_Mo_end 79 t_Mo_end_79 := dk_go 1 a_Mo_end_78 rfl
theorem a_Mo_end_80 : dk_at b_Mo_end 80 t_Mo_end_80 := dk_go 1 a_Mo_end_79 rfl
theorem a_Mo_end_81 : dk_at b_Mo_end 81 t_Mo_end_81 := dk_go 1 a_Mo_end_80 rfl
theorem a_Mo_end_84 : dk_at b_Mo_end 84 t_Mo_end_84 := dk_go 3 a_Mo_end_81 rfl
theorem a_Mo_end_85 : dk_at b_Mo_end 85 t_Mo_end_85 := dk_go 1 a_Mo_end_84 rfl
theorem a_Mo_end_86 : dk_at b_Mo_end 86 t_Mo_end_86 := dk_go 1 a_Mo_end_85 rfl
theorem a_Mo_end_89 : dk_at b_Mo_end 89 t_Mo_end_89 := dk_go 3 a_Mo_end_86 rfl
theorem a_Mo_end_90 : dk_at b_Mo_end 90 t_Mo_end_90 := dk_go 1 a_Mo_end_89 rfl
theorem a_Mo_end_93 : dk_at b_Mo_end 93 t_Mo_end_93 := dk_go 3 a_Mo_end_90 rfl
theorem a_Mo_end_94 : dk_at b_Mo_end 94 t_Mo_end_94 := dk_go 1 a_Mo_end_93 rfl
theorem a_Mo_end_95 : dk_at b_Mo_end 95 t_Mo_end_95 := dk_go 1 a_Mo_end_94 rfl
theorem a_Mo_end_97 : dk_at b_Mo_end 97 t_Mo_end_97 := dk_go 2 a_Mo_end_95 rfl
theorem a_Mo_end_99 : dk_at b_Mo_end 99 t_Mo_end_99 := dk_go 2 a_Mo_end_97 rfl
theorem a_Mo_end_100 : dk_at b_Mo_end 100 t_Mo_end_100 := dk_go 1 a_Mo_end_99 rfl
theorem a_Mo_end_103 : dk_at b_Mo_end 103 t_Mo_end_103 := dk_go 3 a_Mo_end_100 rfl
theorem a_Mo_end_104 : dk_at b_Mo_end 104 t_Mo_end_104 := dk_go 1 a_Mo_end_103 rfl
theorem a_Mo_end_105 : dk_at b_Mo_end 105 t_Mo_end_105 := dk_go 1 a_Mo_end_104 rfl
theorem a_Mo_end_108 : dk_at b_Mo_end 108 t_Mo_end_108 := dk_go 3 a_Mo_end_105 rfl
theorem a_Mo_end_109 : dk_at b_Mo_end 109 t_Mo_end_109 := dk_go 1 a_Mo_end_108 rfl
theorem a_Mo_end_112 : dk_at b_Mo_end 112 t_Mo_end_112 := dk_go 3 a_Mo_end_109 rfl
theorem a_Mo_end_113 : dk_at b_Mo_end 113 t_Mo_end_113 := dk_go 1 a_Mo_end_112 rfl
theorem a_Mo_end_116 : dk_at b_Mo_end 116 t_Mo_end_116 := dk_go 3 a_Mo_end_113 rfl
theorem a_Mo_end_118 : dk_at b_Mo_end 118 t_Mo_end_118 := dk_go 2 a_Mo_end_116 rfl
theorem a_Mo_end_119 : dk_at b_Mo_end 119 t_Mo_end_119 := dk_go 1 a_Mo_end_118 rfl
theorem a_Mo_end_122 : dk_at b_Mo_end 122 t_Mo_end_122 := dk_go 3 a_Mo_end_119 rfl
theorem a_Mo_end_125 : dk_at b_Mo_end 125 t_Mo_end_125 := dk_go 3 a_Mo_end_122 rfl
theorem a_Mo_end_126 : dk_at b_Mo_end 126 t_Mo_end_126 := dk_go 1 a_Mo_end_125 rfl
theorem a_Mo_end_129 : dk_at b_Mo_end 129 t_Mo_end_129 := dk_go 3 a_Mo_end_126 rfl
theorem a_Mo_end_130 : dk_at b_Mo_end 130 t_Mo_end_130 := dk_go 1 a_Mo_end_129 rfl
theorem a_Mo_end_133 : dk_at b_Mo_end 133 t_Mo_end_133 := dk_go 3 a_Mo_end_130 rfl
theorem a_Mo_end_135 : dk_at b_Mo_end 135 t_Mo_end_135 := dk_go 2 a_Mo_end_133 rfl
theorem a_Mo_end_136 : dk_at b_Mo_end 136 t_Mo_end_136 := dk_go 1 a_Mo_end_135 rfl
theorem a_Mo_end_139 : dk_at b_Mo_end 139 t_Mo_end_139 := dk_go 3 a_Mo_end_136 rfl
theorem a_Mo_end_141 : dk_at b_Mo_end 141 t_Mo_end_141 := dk_go 2 a_Mo_end_139 rfl
theorem a_Mo_end_144 : dk_at b_Mo_end 144 t_Mo_end_144 := dk_go 3 a_Mo_end_141 rfl
theorem a_Mo_end_147 : dk_at b_Mo_end 147 t_Mo_end_147 := dk_go 3 a_Mo_end_144 rfl
theorem a_Mo_end_148 : dk_at b_Mo_end 148 t_Mo_end_148 := dk_go 1 a_Mo_end_147 rfl
theorem a_Mo_end_149 : dk_at b_Mo_end 149 t_Mo_end_149 := dk_go 1 a_Mo_end_148 rfl
theorem a_Mo_end_152 : dk_at b_Mo_end 152 t_Mo_end_152 := dk_go 3 a_Mo_end_149 rfl
theorem a_Mo_end_153 : dk_at b_Mo_end 153 t_Mo_end_153 := dk_go 1 a_Mo_end_152 rfl
theorem a_Mo_end_156 : dk_at b_Mo_end 156 t_Mo_end_156 := dk_go 3 a_Mo_end_153 rfl
theorem a_Mo_end_159 : dk_at b_Mo_end 159 t_Mo_end_159 := dk_go 3 a_Mo_end_156 rfl
theorem a_Mo_end_162 : dk_at b_Mo_end 162 t_Mo_end_162 := dk_go 3 a_Mo_end_159 rfl
theorem a_Mo_end_163 : dk_at b_Mo_end 163 t_Mo_end_163 := dk_go 1 a_Mo_end_162 rfl
theorem a_Mo_end_166 : dk_at b_Mo_end 166 t_Mo_end_166 := dk_go 3 a_Mo_end_163 rfl
theorem a_Mo_end_169 : dk_at b_Mo_end 169 t_Mo_end_169 := dk_go 3 a_Mo_end_166 rfl
theorem a_Mo_end_171 : dk_at b_Mo_end 171 t_Mo_end_171 := dk_go 2 a_Mo_end_169 rfl
theorem a_Mo_end_172 : dk_at b_Mo_end 172 t_Mo_end_172 := dk_go 1 a_Mo_end_171 rfl
theorem a_Mo_end_173 : dk_at b_Mo_end 173 t_Mo_end_173 := dk_go 1 a_Mo_end_172 rfl
theorem a_Mo_end_176 : dk_at b_Mo_end 176 t_Mo_end_176 := dk_go 3 a_Mo_end_173 rfl
theorem a_Mo_end_178 : dk_at b_Mo_end 178 t_Mo_end_178 := dk_go 2 a_Mo_end_176 rfl
theorem a_Mo_end_181 : dk_at b_Mo_end 181 t_Mo_end_181 := dk_go 3 a_Mo_end_178 rfl
theorem a_Mo_end_182 : dk_at b_Mo_end 182 t_Mo_end_182 := dk_go 1 a_Mo_end_181 rfl
theorem a_Mo_end_183 : dk_at b_Mo_end 183 t_Mo_end_183 := dk_go 1 a_Mo_end_182 rfl
theorem a_Mo_end_186 : dk_at b_Mo_end 186 t_Mo_end_186 := dk_go 3 a_Mo_end_183 rfl
theorem a_Mo_end_187 : dk_at b_Mo_end 187 t_Mo_end_187 := dk_go 1 a_Mo_end_186 rfl
theorem a_Mo_end_190 : dk_at b_Mo_end 190 t_Mo_end_190 := dk_go 3 a_Mo_end_187 rfl
theorem a_Mo_end_191 : dk_at b_Mo_end 191 t_Mo_end_191 := dk_go 1 a_Mo_end_190 rfl
theorem a_Mo_end_193 : dk_at b_Mo_end 193 t_Mo_end_193 := dk_go 2 a_Mo_end_191 rfl
theorem a_Mo_end_195 : dk_at b_Mo_end 195 t_Mo_end_195 := dk_go 2 a_Mo_end_193 rfl
theorem a_Mo_end_197 : dk_at b_Mo_end 197 t_Mo_end_197 := dk_go 2 a_Mo_end_195 rfl
theorem a_Mo_end_200 : dk_at b_Mo_end 200 t_Mo_end_200 := dk_go 3 a_Mo_end_197 rfl
theorem a_Mo_end_201 : dk_at b_Mo_end 201 t_Mo_end_201 := dk_go 1 a_Mo_end_200 rfl
theorem a_Mo_end_204 : dk_at b_Mo_end 204 t_Mo_end_204 := dk_go 3 a_Mo_end_201 rfl
theorem a_Mo_end_206 : dk_at b_Mo_end 206 t_Mo_end_206 := dk_go 2 a_Mo_end_204 rfl
theorem a_Mo_end_207 : dk_at b_Mo_end 207 t_Mo_end_207 := dk_go 1 a_Mo_end_206 rfl
theorem a_Mo_end_208 : dk_at b_Mo_end 208 t_Mo_end_208 := dk_go 1 a_Mo_end_207 rfl
theorem a_Mo_end_209 : dk_at b_Mo_end 209 t_Mo_end_209 := dk_go 1 a_Mo_end_208 rfl
theorem a_Mo_end_212 : dk_at b_Mo_end 212 t_Mo_end_212 := dk_go 3 a_Mo_end_209 rfl
theorem a_Mo_end_214 : dk_at b_Mo_end 214 t_Mo_end_214 := dk_go 2 a_Mo_end_212 rfl
theorem a_Mo_end_215 : dk_at b_Mo_end 215 t_Mo_end_215 := dk_go 1 a_Mo_end_214 rfl
theorem a_Mo_end_216 : dk_at b_Mo_end 216 t_Mo_end_216 := dk_go 1 a_Mo_end_215 rfl
theorem a_Mo_end_219 : dk_at b_Mo_end 219 t_Mo_end_219 := dk_go 3 a_Mo_end_216 rfl
theorem a_Mo_end_222 : dk_at b_Mo_end 222 t_Mo_end_222 := dk_go 3 a_Mo_end_219 rfl
theorem a_Mo_end_224 : dk_at b_Mo_end 224 t_Mo_end_224 := dk_go 2 a_Mo_end_222 rfl
theorem a_Mo_end_227 : dk_at b_Mo_end 227 t_Mo_end_227 := dk_go 3 a_Mo_end_224 rfl
theorem a_Mo_end_229 : dk_at b_Mo_end 229 t_Mo_end_229 := dk_go 2 a_Mo_end_227 rfl
theorem a_Mo_end_230 : dk_at b_Mo_end 230 t_Mo_end_230 := dk_go 1 a_Mo_end_229 rfl
theorem a_Mo_end_231 : dk_at b_Mo_end 231 t_Mo_end_231 := dk_go 1 a_Mo_end_230 rfl
theorem a_Mo_end_234 : dk_at b_Mo_end 234 t_Mo_end_234 := dk_go 3 a_Mo_end_231 rfl
theorem a_Mo_end_236 : dk_at b_Mo_end 236 t_Mo_end_236 := dk_go 2 a_Mo_end_234 rfl
theorem d_Mo_end_0 : decode b_Mo_end 0 = .ok (.iload_n 1, 1) := dk_0 a_Mo_end_0 (dko_27 _)
theorem d_Mo_end_1 : decode b_Mo_end 1 = .ok (.ifCond .lt 31, 3) := dk_S2 a_Mo_end_1 (dko_155 _) (by decide +kernel)
theorem d_Mo_end_4 : decode b_Mo_end 4 = .ok (.iload_n 1, 1) := dk_0 a_Mo_end_4 (dko_27 _)
theorem d_Mo_end_5 : decode b_Mo_end 5 = .ok (.iconst 2, 1) := dk_0 a_Mo_end_5 (dko_5 _)
theorem d_Mo_end_6 : decode b_Mo_end 6 = .ok (.if_icmp .gt 26, 3) := dk_S2 a_Mo_end_6 (dko_163 _) (by decide +kernel)
theorem d_Mo_end_9 : decode b_Mo_end 9 = .ok (.iload_n 2, 1) := dk_0 a_Mo_end_9 (dko_28 _)
theorem d_Mo_end_10 : decode b_Mo_end 10 = .ok (.ifCond .lt 22, 3) := dk_S2 a_Mo_end_10 (dko_155 _) (by decide +kernel)
theorem d_Mo_end_13 : decode b_Mo_end 13 = .ok (.iload_n 2, 1) := dk_0 a_Mo_end_13 (dko_28 _)
theorem d_Mo_end_14 : decode b_Mo_end 14 = .ok (.sipush 4000, 3) := dk_S2 a_Mo_end_14 (dko_17 _) (by decide +kernel)
theorem d_Mo_end_17 : decode b_Mo_end 17 = .ok (.if_icmp .gt 15, 3) := dk_S2 a_Mo_end_17 (dko_163 _) (by decide +kernel)
theorem d_Mo_end_20 : decode b_Mo_end 20 = .ok (.iload_n 2, 1) := dk_0 a_Mo_end_20 (dko_28 _)
theorem d_Mo_end_21 : decode b_Mo_end 21 = .ok (.aload_n 0, 1) := dk_0 a_Mo_end_21 (dko_42 _)
theorem d_Mo_end_22 : decode b_Mo_end 22 = .ok (.getfield 212, 3) := dk_U2 a_Mo_end_22 (dko_180 _) rfl
theorem d_Mo_end_25 : decode b_Mo_end 25 = .ok (.if_icmp .gt 7, 3) := dk_S2 a_Mo_end_25 (dko_163 _) (by decide +kernel)
theorem d_Mo_end_28 : decode b_Mo_end 28 = .ok (.iconst 1, 1) := dk_0 a_Mo_end_28 (dko_4 _)
theorem d_Mo_end_29 : decode b_Mo_end 29 = .ok (.goto 4, 3) := dk_S2 a_Mo_end_29 (dko_167 _) (by decide +kernel)
theorem d_Mo_end_32 : decode b_Mo_end 32 = .ok (.iconst 0, 1) := dk_0 a_Mo_end_32 (dko_3 _)
theorem d_Mo_end_33 : decode b_Mo_end 33 = .ok (.istore_n 3, 1) := dk_0 a_Mo_end_33 (dko_62 _)
theorem d_Mo_end_34 : decode b_Mo_end 34 = .ok (.iconst 0, 1) := dk_0 a_Mo_end_34 (dko_3 _)
theorem d_Mo_end_35 : decode b_Mo_end 35 = .ok (.istore 4, 2) := dk_U1 a_Mo_end_35 (dko_54 _) rfl
theorem d_Mo_end_37 : decode b_Mo_end 37 = .ok (.iload 4, 2) := dk_U1 a_Mo_end_37 (dko_21 _) rfl
theorem d_Mo_end_39 : decode b_Mo_end 39 = .ok (.iload_n 2, 1) := dk_0 a_Mo_end_39 (dko_28 _)
theorem d_Mo_end_40 : decode b_Mo_end 40 = .ok (.if_icmp .ge 29, 3) := dk_S2 a_Mo_end_40 (dko_162 _) (by decide +kernel)
theorem d_Mo_end_43 : decode b_Mo_end 43 = .ok (.iload_n 3, 1) := dk_0 a_Mo_end_43 (dko_29 _)
theorem d_Mo_end_44 : decode b_Mo_end 44 = .ok (.ifCond .eq 25, 3) := dk_S2 a_Mo_end_44 (dko_153 _) (by decide +kernel)
theorem d_Mo_end_69 : decode b_Mo_end 69 = .ok (.aload_n 0, 1) := dk_0 a_Mo_end_69 (dko_42 _)
theorem d_Mo_end_70 : decode b_Mo_end 70 = .ok (.iconst 0, 1) := dk_0 a_Mo_end_70 (dko_3 _)
theorem d_Mo_end_71 : decode b_Mo_end 71 = .ok (.putfield 212, 3) := dk_U2 a_Mo_end_71 (dko_181 _) rfl
theorem d_Mo_end_74 : decode b_Mo_end 74 = .ok (.iload_n 3, 1) := dk_0 a_Mo_end_74 (dko_29 _)
theorem d_Mo_end_75 : decode b_Mo_end 75 = .ok (.ifCond .ne 5, 3) := dk_S2 a_Mo_end_75 (dko_154 _) (by decide +kernel)
theorem d_Mo_end_78 : decode b_Mo_end 78 = .ok (.iconst (-1), 1) := dk_0 a_Mo_end_78 (dko_2 _)
theorem d_Mo_end_79 : decode b_Mo_end 79 = .ok (.ireturn, 1) := dk_0 a_Mo_end_79 (dko_172 _)
theorem d_Mo_end_80 : decode b_Mo_end 80 = .ok (.iload_n 1, 1) := dk_0 a_Mo_end_80 (dko_27 _)
theorem d_Mo_end_81 : decode b_Mo_end 81 = .ok (.ifCond .ne 13, 3) := dk_S2 a_Mo_end_81 (dko_154 _) (by decide +kernel)
theorem d_Mo_end_84 : decode b_Mo_end 84 = .ok (.aload_n 0, 1) := dk_0 a_Mo_end_84 (dko_42 _)
theorem d_Mo_end_85 : decode b_Mo_end 85 = .ok (.iload_n 2, 1) := dk_0 a_Mo_end_85 (dko_28 _)
theorem d_Mo_end_86 : decode b_Mo_end 86 = .ok (.putfield 215, 3) := dk_U2 a_Mo_end_86 (dko_181 _) rfl
theorem d_Mo_end_89 : decode b_Mo_end 89 = .ok (.aload_n 0, 1) := dk_0 a_Mo_end_89 (dko_42 _)
theorem d_Mo_end_90 : decode b_Mo_end 90 = .ok (.invokevirtual 218, 3) := dk_U2 a_Mo_end_90 (dko_182 _) rfl
theorem d_Mo_end_93 : decode b_Mo_end 93 = .ok (.ireturn, 1) := dk_0 a_Mo_end_93 (dko_172 _)
theorem d_Mo_end_94 : decode b_Mo_end 94 = .ok (.iconst 0, 1) := dk_0 a_Mo_end_94 (dko_3 _)
theorem d_Mo_end_95 : decode b_Mo_end 95 = .ok (.istore 4, 2) := dk_U1 a_Mo_end_95 (dko_54 _) rfl
theorem d_Mo_end_97 : decode b_Mo_end 97 = .ok (.iload 4, 2) := dk_U1 a_Mo_end_97 (dko_21 _) rfl
theorem d_Mo_end_99 : decode b_Mo_end 99 = .ok (.iload_n 2, 1) := dk_0 a_Mo_end_99 (dko_28 _)
theorem d_Mo_end_100 : decode b_Mo_end 100 = .ok (.if_icmp .ge 47, 3) := dk_S2 a_Mo_end_100 (dko_162 _) (by decide +kernel)
theorem d_Mo_end_147 : decode b_Mo_end 147 = .ok (.iload_n 1, 1) := dk_0 a_Mo_end_147 (dko_27 _)
theorem d_Mo_end_148 : decode b_Mo_end 148 = .ok (.iconst 1, 1) := dk_0 a_Mo_end_148 (dko_4 _)
theorem d_Mo_end_149 : decode b_Mo_end 149 = .ok (.if_icmp .ne 13, 3) := dk_S2 a_Mo_end_149 (dko_160 _) (by decide +kernel)
theorem d_Mo_end_152 : decode b_Mo_end 152 = .ok (.aload_n 0, 1) := dk_0 a_Mo_end_152 (dko_42 _)
theorem d_Mo_end_153 : decode b_Mo_end 153 = .ok (.getfield 23, 3) := dk_U2 a_Mo_end_153 (dko_180 _) rfl
theorem d_Mo_end_156 : decode b_Mo_end 156 = .ok (.invokevirtual 227, 3) := dk_U2 a_Mo_end_156 (dko_182 _) rfl
theorem d_Mo_end_159 : decode b_Mo_end 159 = .ok (.goto 10, 3) := dk_S2 a_Mo_end_159 (dko_167 _) (by decide +kernel)
theorem d_Mo_end_162 : decode b_Mo_end 162 = .ok (.aload_n 0, 1) := dk_0 a_Mo_end_162 (dko_42 _)
theorem d_Mo_end_163 : decode b_Mo_end 163 = .ok (.getfield 16, 3) := dk_U2 a_Mo_end_163 (dko_180 _) rfl
theorem d_Mo_end_166 : decode b_Mo_end 166 = .ok (.invokevirtual 230, 3) := dk_U2 a_Mo_end_166 (dko_182 _) rfl
theorem d_Mo_end_169 : decode b_Mo_end 169 = .ok (.istore 4, 2) := dk_U1 a_Mo_end_169 (dko_54 _) rfl
theorem d_Mo_end_171 : decode b_Mo_end 171 = .ok (.iload_n 1, 1) := dk_0 a_Mo_end_171 (dko_27 _)
theorem d_Mo_end_172 : decode b_Mo_end 172 = .ok (.iconst 2, 1) := dk_0 a_Mo_end_172 (dko_5 _)
theorem d_Mo_end_173 : decode b_Mo_end 173 = .ok (.if_icmp .ne 49, 3) := dk_S2 a_Mo_end_173 (dko_160 _) (by decide +kernel)
theorem d_Mo_end_176 : decode b_Mo_end 176 = .ok (.iload 4, 2) := dk_U1 a_Mo_end_176 (dko_21 _) rfl
theorem d_Mo_end_178 : decode b_Mo_end 178 = .ok (.ifCond .lt 44, 3) := dk_S2 a_Mo_end_178 (dko_155 _) (by decide +kernel)
theorem d_Mo_end_181 : decode b_Mo_end 181 = .ok (.aload_n 0, 1) := dk_0 a_Mo_end_181 (dko_42 _)
theorem d_Mo_end_182 : decode b_Mo_end 182 = .ok (.iconst 4, 1) := dk_0 a_Mo_end_182 (dko_7 _)
theorem d_Mo_end_183 : decode b_Mo_end 183 = .ok (.putfield 162, 3) := dk_U2 a_Mo_end_183 (dko_181 _) rfl
theorem d_Mo_end_186 : decode b_Mo_end 186 = .ok (.aload_n 0, 1) := dk_0 a_Mo_end_186 (dko_42 _)
theorem d_Mo_end_187 : decode b_Mo_end 187 = .ok (.invokevirtual 231, 3) := dk_U2 a_Mo_end_187 (dko_182 _) rfl
theorem d_Mo_end_190 : decode b_Mo_end 190 = .ok (.iconst 0, 1) := dk_0 a_Mo_end_190 (dko_3 _)
theorem d_Mo_end_191 : decode b_Mo_end 191 = .ok (.istore 5, 2) := dk_U1 a_Mo_end_191 (dko_54 _) rfl
theorem d_Mo_end_193 : decode b_Mo_end 193 = .ok (.iload 5, 2) := dk_U1 a_Mo_end_193 (dko_21 _) rfl
theorem d_Mo_end_195 : decode b_Mo_end 195 = .ok (.bipush 40, 2) := dk_S1 a_Mo_end_195 (dko_16 _) (by decide +kernel)
theorem d_Mo_end_197 : decode b_Mo_end 197 = .ok (.if_icmp .ge 25, 3) := dk_S2 a_Mo_end_197 (dko_162 _) (by decide +kernel)
theorem d_Mo_end_200 : decode b_Mo_end 200 = .ok (.aload_n 0, 1) := dk_0 a_Mo_end_200 (dko_42 _)
theorem d_Mo_end_201 : decode b_Mo_end 201 = .ok (.getfield 144, 3) := dk_U2 a_Mo_end_201 (dko_180 _) rfl
theorem d_Mo_end_204 : decode b_Mo_end 204 = .ok (.iload 5, 2) := dk_U1 a_Mo_end_204 (dko_21 _) rfl
theorem d_Mo_end_206 : decode b_Mo_end 206 = .ok (.iconst (-1), 1) := dk_0 a_Mo_end_206 (dko_2 _)
theorem d_Mo_end_207 : decode b_Mo_end 207 = .ok (.iastore, 1) := dk_0 a_Mo_end_207 (dko_79 _)
theorem d_Mo_end_208 : decode b_Mo_end 208 = .ok (.aload_n 0, 1) := dk_0 a_Mo_end_208 (dko_42 _)
theorem d_Mo_end_209 : decode b_Mo_end 209 = .ok (.getfield 159, 3) := dk_U2 a_Mo_end_209 (dko_180 _) rfl
theorem d_Mo_end_212 : decode b_Mo_end 212 = .ok (.iload 5, 2) := dk_U1 a_Mo_end_212 (dko_21 _) rfl
theorem d_Mo_end_214 : decode b_Mo_end 214 = .ok (.lconst 0, 1) := dk_0 a_Mo_end_214 (dko_9 _)
theorem d_Mo_end_215 : decode b_Mo_end 215 = .ok (.lastore, 1) := dk_0 a_Mo_end_215 (dko_80 _)
theorem d_Mo_end_216 : decode b_Mo_end 216 = .ok (.iinc 5 1, 3) := dk_US a_Mo_end_216 (dko_132 _) (by decide +kernel)
theorem d_Mo_end_219 : decode b_Mo_end 219 = .ok (.goto (-26), 3) := dk_S2 a_Mo_end_219 (dko_167 _) (by decide +kernel)
theorem d_Mo_end_222 : decode b_Mo_end 222 = .ok (.iload 4, 2) := dk_U1 a_Mo_end_222 (dko_21 _) rfl
theorem d_Mo_end_224 : decode b_Mo_end 224 = .ok (.ifCond .ge 10, 3) := dk_S2 a_Mo_end_224 (dko_156 _) (by decide +kernel)
theorem d_Mo_end_234 : decode b_Mo_end 234 = .ok (.iload 4, 2) := dk_U1 a_Mo_end_234 (dko_21 _) rfl
theorem d_Mo_end_236 : decode b_Mo_end 236 = .ok (.ireturn, 1) := dk_0 a_Mo_end_236 (dko_172 _)
def fn_Mo_end (kd : Int32) (nn : Int32) : Int32 := (if kd < 0 then (if nn ≤ 0 then (-1) else (-1)) else (if 2 < kd then (if nn ≤ 0 then (-1) else (-1)) else (if nn < 0 then (if nn ≤ 0 then (-1) else (-1)) else (if 4000 < nn then (if nn ≤ 0 then (-1) else (-1)) else (if 0 < nn then (-1) else (if kd = 0 then 0 else (if kd = 1 then (if kd = 2 then 0 else 0) else (if kd = 2 then 0 else 0))))))))
set_option maxHeartbeats 4000000 in
set_option maxRecDepth 100000 in
theorem c_Mo_end (l : Launch) (dC : Nat → ClassId) (dI : Nat → Nat → Nat) (cI cB cZ cJ : ClassId) (kd : Int32) (nn : Int32) (oM : Nat) (oT : Nat) (am_senseWhat : Nat) (am_values : Nat) (oR : Nat) (am_lasts : Nat) (am_cleaned : Nat) (fm : List Value) (hm_taped : fx fm 1 (.int 0)) (hm_program : fx fm 2 (.ref oT)) (hm_interlocks : fx fm 3 (.ref oR)) (hm_things : fx fm 4 (.int 0)) (hm_pipes : fx fm 11 (.int 0)) (hm_lasts : fx fm 16 (.ref am_lasts)) (hm_cleaned : fx fm 17 (.ref am_cleaned)) (hm_place : fx fm 21 (.int 0)) (hm_limit : fx fm 22 (.int 0)) (hm_ways : fx fm 26 (.int 0)) (hm_senseWhat : fx fm 53 (.ref am_senseWhat)) (hm_values : fx fm 58 (.ref am_values)) (hm_state : fx fm 59 (.int 4)) (hm_newThings : fx fm 85 (.int 0)) (hm_newPipes : fx fm 86 (.int 0)) (ft : List Value) (ht_size : fx ft 1 (.int 0)) (ht_place : fx ft 2 (.int 0)) (ht_nowLine : fx ft 3 (.int 0)) (ht_token : fx ft 4 (.int 0)) (ht_begin : fx ft 5 (.int 0)) (ht_end : fx ft 6 (.int 0)) (ht_tokenLine : fx ft 7 (.int 0)) (ht_wrong : fx ft 10 (.int 0)) (ht_open : fx ft 11 (.int 0)) (ht_half : fx ft 12 (.int 0)) (ht_nodes : fx ft 13 (.int 0)) (ht_kidsMade : fx ft 21 (.int 0)) (ht_topsMade : fx ft 23 (.int 0)) (ht_names : fx ft 24 (.int 0)) (ht_nodeCount : fx ft 30 (.int 0)) (ht_topCount : fx ft 31 (.int 0)) (ht_nameCount : fx ft 32 (.int 0)) (ht_statements : fx ft 33 (.int 0)) (ht_high : fx ft 35 (.int 0)) (ht_made : fx ft 38 (.int 0)) (fr : List Value) (hr_size : fx fr 1 (.int 0)) (hr_words : fx fr 4 (.int 0)) (hr_next : fx fr 5 (.int 0)) (hr_nodes : fx fr 11 (.int 0)) (hr_half : fx fr 12 (.int 0)) (hr_made : fx fr 13 (.int 0)) (hr_rows : fx fr 20 (.int 0)) (sz : Nat) : Met l y_Mo_end w_Mo_end ({ frames := 4, cells := 0, slots := 0, locals := 86 }) (va_Pc [.ref oM, .int kd, .int nn] (PW dC dI cI cB cZ cJ [(oM, .inr (12, fm)), (oT, .inr (13, ft)), (am_senseWhat, .inl (cI, 40, .inl ((fun _ => (-1))))), (am_values, .inl (cJ, 40, .inr (.inl (fun _ => 0)))), (oR, .inr (14, fr)), (am_lasts, .inl (cI, 44, .inl (fun _ => 0))), (am_cleaned, .inl (cI, 264, .inl (fun _ => 0)))] sz)) (va_Qi (fun (r : Int32) (_ : Unit) => r = fn_Mo_end kd nn) (fun _ _ => True) (va_A [(oM, .inr (12, fm)), (oT, .inr (13, ft)), (am_senseWhat, .inl (cI, 40, .inl ((fun _ => (-1))))), (am_values, .inl (cJ, 40, .inr (.inl (fun _ => 0)))), (oR, .inr (14, fr)), (am_lasts, .inl (cI, 44, .inl (fun _ => 0))), (am_cleaned, .inl (cI, 264, .inl (fun _ => 0)))] sz)) 0 0 (va_A [(oM, .inr (12, fm)), (oT, .inr (13, ft)), (am_senseWhat, .inl (cI, 40, .inl ((fun _ => (-1))))), (am_values, .inl (cJ, 40, .inr (.inl (fun _ => 0)))), (oR, .inr (14, fr)), (am_lasts, .inl (cI, 44, .inl (fun _ => 0))), (am_cleaned, .inl (cI, 264, .inl (fun _ => 0)))] sz) := by
  refine Met.ofW (cc := b_Mo_end) (maxL := 6) (ret := (some .int)) (by decide) rfl ?_
  intro p e s m args below meth c s₁ B hml hv
  obtain ⟨rfl, hsz, hP, hK, hD⟩ := hv
  have hx := B.exec
  have hb := B.bytes
  have hr := B.returns
  have hts := atoms_spec (ws := w_Mo_end) B.pre
  have hown : s.vm.findClass R_Mo = some m.cls := findClass_of_methodNamed B.named
  have hlocks := B.notSynchronized
  subst hsz
  have hD := hD.self (sz := s.heap.size)
  generalize hAe : va_A [(oM, .inr (12, fm)), (oT, .inr (13, ft)), (am_senseWhat, .inl (cI, 40, .inl ((fun _ => (-1))))), (am_values, .inl (cJ, 40, .inr (.inl (fun _ => 0)))), (oR, .inr (14, fr)), (am_lasts, .inl (cI, 44, .inl (fun _ => 0))), (am_cleaned, .inl (cI, 264, .inl (fun _ => 0)))] s.heap.size = A at hD ⊢
  have hA : ∀ q : Nat, s.heap.size ≤ q → A q := fun q h => by rw [← hAe]; exact Or.inr h
  have hS : va_S A s.heap s.heap [] := va_S.rf
  have hP : va_P (dC, dI) classes [(oM, .inr (12, fm)), (oT, .inr (13, ft)), (am_senseWhat, .inl (cI, 40, .inl ((fun _ => (-1))))), (am_values, .inl (cJ, 40, .inr (.inl (fun _ => 0)))), (oR, .inr (14, fr)), (am_lasts, .inl (cI, 44, .inl (fun _ => 0))), (am_cleaned, .inl (cI, 264, .inl (fun _ => 0)))] s.heap := hP
  have hl := lv_entry ([.ref oM, .int kd, .int nn]) (n := 6) (Nat.le_of_ble_eq_true rfl)
  rw [lg_entry_eq]
  generalize (lg_sl ([.ref oM, .int kd, .int nn]) ++ List.replicate (6 - (lg_sl ([.ref oM, .int kd, .int nn])).length) Slot.unset).toArray = ls at hl ⊢
  have hl : lv_has ls 6 [(0, .ref oM), (1, .int kd), (2, .int nn)] := hl
  refine lv_iload_n hx hb d_Mo_end_0 rfl (lv_at hl 1 rfl) ?_
  refine lv_if_lt (tgt := 32) hx hb d_Mo_end_1 (by decide) (fun h1 => ?_) (fun h1 => ?_)
  · refine lv_iconst (v := 0) hx hb d_Mo_end_32 (by decide) ?_
    refine lv_istore_n hx hb d_Mo_end_33 rfl hl (by decide) rfl (fun ls hl => ?_)
    have hl : lv_has ls 6 [(3, .int 0), (0, .ref oM), (1, .int kd), (2, .int nn)] := hl
    refine lv_iconst (v := 0) hx hb d_Mo_end_34 (by decide) ?_
    refine lv_istore hx hb d_Mo_end_35 hl (by decide) rfl (fun ls hl => ?_)
    have hl : lv_has ls 6 [(4, .int 0), (3, .int 0), (0, .ref oM), (1, .int kd), (2, .int nn)] := hl
    refine lv_iload hx hb d_Mo_end_37 (lv_at hl 0 rfl) ?_
    refine lv_iload_n hx hb d_Mo_end_39 rfl (lv_at hl 4 rfl) ?_
    refine lv_icmp_ge (tgt := 69) hx hb d_Mo_end_40 (by decide) (fun h40 => ?_) (fun h40 => ?_)
    · refine lv_aload_n hx hb d_Mo_end_69 rfl (lv_at hl 2 rfl) ?_
      refine lv_iconst (v := 0) hx hb d_Mo_end_70 (by decide) ?_
      refine va_put (D := (dC, dI)) (ci := 12) (v := .int 0) (ty := .int) (C := R_Mo) (T := F_Mo) (N := 87) hx hb hts (fun w h => List.mem_cons_of_mem _ (in_Mo w h)) t_Mo t_Mo_ok n_Mo hown hK.1 hP hD hS 0 rfl rfl 1 (by decide) (hts _ (List.mem_cons_of_mem _ mw_1795)) (fun _ h9 => h9) rfl (by decide +kernel) rfl rfl (st_lt hm_taped) d_Mo_end_71 (fun H locs hP hD hS => ?_)
      have g71_17 : fx (fm.set 1 (.int 0)) 17 (.ref am_cleaned) := (st_ne hm_cleaned (by decide))
      have g71_3 : fx (fm.set 1 (.int 0)) 3 (.ref oR) := (st_ne hm_interlocks (by decide))
      have g71_16 : fx (fm.set 1 (.int 0)) 16 (.ref am_lasts) := (st_ne hm_lasts (by decide))
      have g71_22 : fx (fm.set 1 (.int 0)) 22 (.int 0) := (st_ne hm_limit (by decide))
      have g71_86 : fx (fm.set 1 (.int 0)) 86 (.int 0) := (st_ne hm_newPipes (by decide))
      have g71_85 : fx (fm.set 1 (.int 0)) 85 (.int 0) := (st_ne hm_newThings (by decide))
      have g71_11 : fx (fm.set 1 (.int 0)) 11 (.int 0) := (st_ne hm_pipes (by decide))
      have g71_21 : fx (fm.set 1 (.int 0)) 21 (.int 0) := (st_ne hm_place (by decide))
      have g71_2 : fx (fm.set 1 (.int 0)) 2 (.ref oT) := (st_ne hm_program (by decide))
      have g71_53 : fx (fm.set 1 (.int 0)) 53 (.ref am_senseWhat) := (st_ne hm_senseWhat (by decide))
      have g71_59 : fx (fm.set 1 (.int 0)) 59 (.int 4) := (st_ne hm_state (by decide))
      have g71_1 : fx (fm.set 1 (.int 0)) 1 (.int 0) := (st_eq hm_taped)
      have g71_4 : fx (fm.set 1 (.int 0)) 4 (.int 0) := (st_ne hm_things (by decide))
      have g71_58 : fx (fm.set 1 (.int 0)) 58 (.ref am_values) := (st_ne hm_values (by decide))
      have g71_26 : fx (fm.set 1 (.int 0)) 26 (.int 0) := (st_ne hm_ways (by decide))
      have hP : va_P (dC, dI) classes [(oM, .inr (12, (fm.set 1 (.int 0)))), (oT, .inr (13, ft)), (am_senseWhat, .inl (cI, 40, .inl ((fun _ => (-1))))), (am_values, .inl (cJ, 40, .inr (.inl (fun _ => 0)))), (oR, .inr (14, fr)), (am_lasts, .inl (cI, 44, .inl (fun _ => 0))), (am_cleaned, .inl (cI, 264, .inl (fun _ => 0)))] H := hP
      have hD : va_D A [(oM, .inr (12, (fm.set 1 (.int 0)))), (oT, .inr (13, ft)), (am_senseWhat, .inl (cI, 40, .inl ((fun _ => (-1))))), (am_values, .inl (cJ, 40, .inr (.inl (fun _ => 0)))), (oR, .inr (14, fr)), (am_lasts, .inl (cI, 44, .inl (fun _ => 0))), (am_cleaned, .inl (cI, 264, .inl (fun _ => 0)))] := hD
      refine lv_iload_n hx hb d_Mo_end_74 rfl (lv_at hl 1 rfl) ?_
      refine lv_if_ne (tgt := 80) hx hb d_Mo_end_75 (by decide) (fun h => absurd rfl h) (fun _ => ?_)
      refine lv_iconst (v := (-1)) hx hb d_Mo_end_78 (by decide) ?_
      exact W.iret (v := (-1)) hx hb hr (fun t ht hW => ⟨⟨_, (), rfl, (by unfold fn_Mo_end; rw [if_pos h1, if_pos h40]), trivial⟩, hS.F ht⟩) hS.2.2 d_Mo_end_79
    · refine lv_iload_n hx hb d_Mo_end_43 rfl (lv_at hl 1 rfl) ?_
      refine lv_if_eq (tgt := 69) hx hb d_Mo_end_44 (by decide) (fun _ => ?_) (fun h => absurd (by decide) h)
      refine lv_aload_n hx hb d_Mo_end_69 rfl (lv_at hl 2 rfl) ?_
      refine lv_iconst (v := 0) hx hb d_Mo_end_70 (by decide) ?_
      refine va_put (D := (dC, dI)) (ci := 12) (v := .int 0) (ty := .int) (C := R_Mo) (T := F_Mo) (N := 87) hx hb hts (fun w h => List.mem_cons_of_mem _ (in_Mo w h)) t_Mo t_Mo_ok n_Mo hown hK.1 hP hD hS 0 rfl rfl 1 (by decide) (hts _ (List.mem_cons_of_mem _ mw_1795)) (fun _ h9 => h9) rfl (by decide +kernel) rfl rfl (st_lt hm_taped) d_Mo_end_71 (fun H locs hP hD hS => ?_)
      have g71_17 : fx (fm.set 1 (.int 0)) 17 (.ref am_cleaned) := (st_ne hm_cleaned (by decide))
      have g71_3 : fx (fm.set 1 (.int 0)) 3 (.ref oR) := (st_ne hm_interlocks (by decide))
      have g71_16 : fx (fm.set 1 (.int 0)) 16 (.ref am_lasts) := (st_ne hm_lasts (by decide))
      have g71_22 : fx (fm.set 1 (.int 0)) 22 (.int 0) := (st_ne hm_limit (by decide))
      have g71_86 : fx (fm.set 1 (.int 0)) 86 (.int 0) := (st_ne hm_newPipes (by decide))
      have g71_85 : fx (fm.set 1 (.int 0)) 85 (.int 0) := (st_ne hm_newThings (by decide))
      have g71_11 : fx (fm.set 1 (.int 0)) 11 (.int 0) := (st_ne hm_pipes (by decide))
      have g71_21 : fx (fm.set 1 (.int 0)) 21 (.int 0) := (st_ne hm_place (by decide))
      have g71_2 : fx (fm.set 1 (.int 0)) 2 (.ref oT) := (st_ne hm_program (by decide))
      have g71_53 : fx (fm.set 1 (.int 0)) 53 (.ref am_senseWhat) := (st_ne hm_senseWhat (by decide))
      have g71_59 : fx (fm.set 1 (.int 0)) 59 (.int 4) := (st_ne hm_state (by decide))
      have g71_1 : fx (fm.set 1 (.int 0)) 1 (.int 0) := (st_eq hm_taped)
      have g71_4 : fx (fm.set 1 (.int 0)) 4 (.int 0) := (st_ne hm_things (by decide))
      have g71_58 : fx (fm.set 1 (.int 0)) 58 (.ref am_values) := (st_ne hm_values (by decide))
      have g71_26 : fx (fm.set 1 (.int 0)) 26 (.int 0) := (st_ne hm_ways (by decide))
      have hP : va_P (dC, dI) classes [(oM, .inr (12, (fm.set 1 (.int 0)))), (oT, .inr (13, ft)), (am_senseWhat, .inl (cI, 40, .inl ((fun _ => (-1))))), (am_values, .inl (cJ, 40, .inr (.inl (fun _ => 0)))), (oR, .inr (14, fr)), (am_lasts, .inl (cI, 44, .inl (fun _ => 0))), (am_cleaned, .inl (cI, 264, .inl (fun _ => 0)))] H := hP
      have hD : va_D A [(oM, .inr (12, (fm.set 1 (.int 0)))), (oT, .inr (13, ft)), (am_senseWhat, .inl (cI, 40, .inl ((fun _ => (-1))))), (am_values, .inl (cJ, 40, .inr (.inl (fun _ => 0)))), (oR, .inr (14, fr)), (am_lasts, .inl (cI, 44, .inl (fun _ => 0))), (am_cleaned, .inl (cI, 264, .inl (fun _ => 0)))] := hD
      refine lv_iload_n hx hb d_Mo_end_74 rfl (lv_at hl 1 rfl) ?_
      refine lv_if_ne (tgt := 80) hx hb d_Mo_end_75 (by decide) (fun h => absurd rfl h) (fun _ => ?_)
      refine lv_iconst (v := (-1)) hx hb d_Mo_end_78 (by decide) ?_
      exact W.iret (v := (-1)) hx hb hr (fun t ht hW => ⟨⟨_, (), rfl, (by unfold fn_Mo_end; rw [if_pos h1, if_neg h40]), trivial⟩, hS.F ht⟩) hS.2.2 d_Mo_end_79
  · refine lv_iload_n hx hb d_Mo_end_4 rfl (lv_at hl 1 rfl) ?_
    refine lv_iconst (v := 2) hx hb d_Mo_end_5 (by decide) ?_
    refine lv_icmp_gt (tgt := 32) hx hb d_Mo_end_6 (by decide) (fun h6 => ?_) (fun h6 => ?_)
    · refine lv_iconst (v := 0) hx hb d_Mo_end_32 (by decide) ?_
      refine lv_istore_n hx hb d_Mo_end_33 rfl hl (by decide) rfl (fun ls hl => ?_)
      have hl : lv_has ls 6 [(3, .int 0), (0, .ref oM), (1, .int kd), (2, .int nn)] := hl
      refine lv_iconst (v := 0) hx hb d_Mo_end_34 (by decide) ?_
      refine lv_istore hx hb d_Mo_end_35 hl (by decide) rfl (fun ls hl => ?_)
      have hl : lv_has ls 6 [(4, .int 0), (3, .int 0), (0, .ref oM), (1, .int kd), (2, .int nn)] := hl
      refine lv_iload hx hb d_Mo_end_37 (lv_at hl 0 rfl) ?_
      refine lv_iload_n hx hb d_Mo_end_39 rfl (lv_at hl 4 rfl) ?_
      refine lv_icmp_ge (tgt := 69) hx hb d_Mo_end_40 (by decide) (fun h40 => ?_) (fun h40 => ?_)
      · refine lv_aload_n hx hb d_Mo_end_69 rfl (lv_at hl 2 rfl) ?_
        refine lv_iconst (v := 0) hx hb d_Mo_end_70 (by decide) ?_
        refine va_put (D := (dC, dI)) (ci := 12) (v := .int 0) (ty := .int) (C := R_Mo) (T := F_Mo) (N := 87) hx hb hts (fun w h => List.mem_cons_of_mem _ (in_Mo w h)) t_Mo t_Mo_ok n_Mo hown hK.1 hP hD hS 0 rfl rfl 1 (by decide) (hts _ (List.mem_cons_of_mem _ mw_1795)) (fun _ h9 => h9) rfl (by decide +kernel) rfl rfl (st_lt hm_taped) d_Mo_end_71 (fun H locs hP hD hS => ?_)
        have g71_17 : fx (fm.set 1 (.int 0)) 17 (.ref am_cleaned) := (st_ne hm_cleaned (by decide))
        have g71_3 : fx (fm.set 1 (.int 0)) 3 (.ref oR) := (st_ne hm_interlocks (by decide))
        have g71_16 : fx (fm.set 1 (.int 0)) 16 (.ref am_lasts) := (st_ne hm_lasts (by decide))
        have g71_22 : fx (fm.set 1 (.int 0)) 22 (.int 0) := (st_ne hm_limit (by decide))
        have g71_86 : fx (fm.set 1 (.int 0)) 86 (.int 0) := (st_ne hm_newPipes (by decide))
        have g71_85 : fx (fm.set 1 (.int 0)) 85 (.int 0) := (st_ne hm_newThings (by decide))
        have g71_11 : fx (fm.set 1 (.int 0)) 11 (.int 0) := (st_ne hm_pipes (by decide))
        have g71_21 : fx (fm.set 1 (.int 0)) 21 (.int 0) := (st_ne hm_place (by decide))
        have g71_2 : fx (fm.set 1 (.int 0)) 2 (.ref oT) := (st_ne hm_program (by decide))
        have g71_53 : fx (fm.set 1 (.int 0)) 53 (.ref am_senseWhat) := (st_ne hm_senseWhat (by decide))
        have g71_59 : fx (fm.set 1 (.int 0)) 59 (.int 4) := (st_ne hm_state (by decide))
        have g71_1 : fx (fm.set 1 (.int 0)) 1 (.int 0) := (st_eq hm_taped)
        have g71_4 : fx (fm.set 1 (.int 0)) 4 (.int 0) := (st_ne hm_things (by decide))
        have g71_58 : fx (fm.set 1 (.int 0)) 58 (.ref am_values) := (st_ne hm_values (by decide))
        have g71_26 : fx (fm.set 1 (.int 0)) 26 (.int 0) := (st_ne hm_ways (by decide))
        have hP : va_P (dC, dI) classes [(oM, .inr (12, (fm.set 1 (.int 0)))), (oT, .inr (13, ft)), (am_senseWhat, .inl (cI, 40, .inl ((fun _ => (-1))))), (am_values, .inl (cJ, 40, .inr (.inl (fun _ => 0)))), (oR, .inr (14, fr)), (am_lasts, .inl (cI, 44, .inl (fun _ => 0))), (am_cleaned, .inl (cI, 264, .inl (fun _ => 0)))] H := hP
        have hD : va_D A [(oM, .inr (12, (fm.set 1 (.int 0)))), (oT, .inr (13, ft)), (am_senseWhat, .inl (cI, 40, .inl ((fun _ => (-1))))), (am_values, .inl (cJ, 40, .inr (.inl (fun _ => 0)))), (oR, .inr (14, fr)), (am_lasts, .inl (cI, 44, .inl (fun _ => 0))), (am_cleaned, .inl (cI, 264, .inl (fun _ => 0)))] := hD
        refine lv_iload_n hx hb d_Mo_end_74 rfl (lv_at hl 1 rfl) ?_
        refine lv_if_ne (tgt := 80) hx hb d_Mo_end_75 (by decide) (fun h => absurd rfl h) (fun _ => ?_)
        refine lv_iconst (v := (-1)) hx hb d_Mo_end_78 (by decide) ?_
        exact W.iret (v := (-1)) hx hb hr (fun t ht hW => ⟨⟨_, (), rfl, (by unfold fn_Mo_end; rw [if_neg h1, if_pos h6, if_pos h40]), trivial⟩, hS.F ht⟩) hS.2.2 d_Mo_end_79
      · refine lv_iload_n hx hb d_Mo_end_43 rfl (lv_at hl 1 rfl) ?_
        refine lv_if_eq (tgt := 69) hx hb d_Mo_end_44 (by decide) (fun _ => ?_) (fun h => absurd (by decide) h)
        refine lv_aload_n hx hb d_Mo_end_69 rfl (lv_at hl 2 rfl) ?_
        refine lv_iconst (v := 0) hx hb d_Mo_end_70 (by decide) ?_
        refine va_put (D := (dC, dI)) (ci := 12) (v := .int 0) (ty := .int) (C := R_Mo) (T := F_Mo) (N := 87) hx hb hts (fun w h => List.mem_cons_of_mem _ (in_Mo w h)) t_Mo t_Mo_ok n_Mo hown hK.1 hP hD hS 0 rfl rfl 1 (by decide) (hts _ (List.mem_cons_of_mem _ mw_1795)) (fun _ h9 => h9) rfl (by decide +kernel) rfl rfl (st_lt hm_taped) d_Mo_end_71 (fun H locs hP hD hS => ?_)
        have g71_17 : fx (fm.set 1 (.int 0)) 17 (.ref am_cleaned) := (st_ne hm_cleaned (by decide))
        have g71_3 : fx (fm.set 1 (.int 0)) 3 (.ref oR) := (st_ne hm_interlocks (by decide))
        have g71_16 : fx (fm.set 1 (.int 0)) 16 (.ref am_lasts) := (st_ne hm_lasts (by decide))
        have g71_22 : fx (fm.set 1 (.int 0)) 22 (.int 0) := (st_ne hm_limit (by decide))
        have g71_86 : fx (fm.set 1 (.int 0)) 86 (.int 0) := (st_ne hm_newPipes (by decide))
        have g71_85 : fx (fm.set 1 (.int 0)) 85 (.int 0) := (st_ne hm_newThings (by decide))
        have g71_11 : fx (fm.set 1 (.int 0)) 11 (.int 0) := (st_ne hm_pipes (by decide))
        have g71_21 : fx (fm.set 1 (.int 0)) 21 (.int 0) := (st_ne hm_place (by decide))
        have g71_2 : fx (fm.set 1 (.int 0)) 2 (.ref oT) := (st_ne hm_program (by decide))
        have g71_53 : fx (fm.set 1 (.int 0)) 53 (.ref am_senseWhat) := (st_ne hm_senseWhat (by decide))
        have g71_59 : fx (fm.set 1 (.int 0)) 59 (.int 4) := (st_ne hm_state (by decide))
        have g71_1 : fx (fm.set 1 (.int 0)) 1 (.int 0) := (st_eq hm_taped)
        have g71_4 : fx (fm.set 1 (.int 0)) 4 (.int 0) := (st_ne hm_things (by decide))
        have g71_58 : fx (fm.set 1 (.int 0)) 58 (.ref am_values) := (st_ne hm_values (by decide))
        have g71_26 : fx (fm.set 1 (.int 0)) 26 (.int 0) := (st_ne hm_ways (by decide))
        have hP : va_P (dC, dI) classes [(oM, .inr (12, (fm.set 1 (.int 0)))), (oT, .inr (13, ft)), (am_senseWhat, .inl (cI, 40, .inl ((fun _ => (-1))))), (am_values, .inl (cJ, 40, .inr (.inl (fun _ => 0)))), (oR, .inr (14, fr)), (am_lasts, .inl (cI, 44, .inl (fun _ => 0))), (am_cleaned, .inl (cI, 264, .inl (fun _ => 0)))] H := hP
        have hD : va_D A [(oM, .inr (12, (fm.set 1 (.int 0)))), (oT, .inr (13, ft)), (am_senseWhat, .inl (cI, 40, .inl ((fun _ => (-1))))), (am_values, .inl (cJ, 40, .inr (.inl (fun _ => 0)))), (oR, .inr (14, fr)), (am_lasts, .inl (cI, 44, .inl (fun _ => 0))), (am_cleaned, .inl (cI, 264, .inl (fun _ => 0)))] := hD
        refine lv_iload_n hx hb d_Mo_end_74 rfl (lv_at hl 1 rfl) ?_
        refine lv_if_ne (tgt := 80) hx hb d_Mo_end_75 (by decide) (fun h => absurd rfl h) (fun _ => ?_)
        refine lv_iconst (v := (-1)) hx hb d_Mo_end_78 (by decide) ?_
        exact W.iret (v := (-1)) hx hb hr (fun t ht hW => ⟨⟨_, (), rfl, (by unfold fn_Mo_end; rw [if_neg h1, if_pos h6, if_neg h40]), trivial⟩, hS.F ht⟩) hS.2.2 d_Mo_end_79
    · refine lv_iload_n hx hb d_Mo_end_9 rfl (lv_at hl 2 rfl) ?_
      refine lv_if_lt (tgt := 32) hx hb d_Mo_end_10 (by decide) (fun h10 => ?_) (fun h10 => ?_)
      · refine lv_iconst (v := 0) hx hb d_Mo_end_32 (by decide) ?_
        refine lv_istore_n hx hb d_Mo_end_33 rfl hl (by decide) rfl (fun ls hl => ?_)
        have hl : lv_has ls 6 [(3, .int 0), (0, .ref oM), (1, .int kd), (2, .int nn)] := hl
        refine lv_iconst (v := 0) hx hb d_Mo_end_34 (by decide) ?_
        refine lv_istore hx hb d_Mo_end_35 hl (by decide) rfl (fun ls hl => ?_)
        have hl : lv_has ls 6 [(4, .int 0), (3, .int 0), (0, .ref oM), (1, .int kd), (2, .int nn)] := hl
        refine lv_iload hx hb d_Mo_end_37 (lv_at hl 0 rfl) ?_
        refine lv_iload_n hx hb d_Mo_end_39 rfl (lv_at hl 4 rfl) ?_
        refine lv_icmp_ge (tgt := 69) hx hb d_Mo_end_40 (by decide) (fun h40 => ?_) (fun h40 => ?_)
        · refine lv_aload_n hx hb d_Mo_end_69 rfl (lv_at hl 2 rfl) ?_
          refine lv_iconst (v := 0) hx hb d_Mo_end_70 (by decide) ?_
          refine va_put (D := (dC, dI)) (ci := 12) (v := .int 0) (ty := .int) (C := R_Mo) (T := F_Mo) (N := 87) hx hb hts (fun w h => List.mem_cons_of_mem _ (in_Mo w h)) t_Mo t_Mo_ok n_Mo hown hK.1 hP hD hS 0 rfl rfl 1 (by decide) (hts _ (List.mem_cons_of_mem _ mw_1795)) (fun _ h9 => h9) rfl (by decide +kernel) rfl rfl (st_lt hm_taped) d_Mo_end_71 (fun H locs hP hD hS => ?_)
          have g71_17 : fx (fm.set 1 (.int 0)) 17 (.ref am_cleaned) := (st_ne hm_cleaned (by decide))
          have g71_3 : fx (fm.set 1 (.int 0)) 3 (.ref oR) := (st_ne hm_interlocks (by decide))
          have g71_16 : fx (fm.set 1 (.int 0)) 16 (.ref am_lasts) := (st_ne hm_lasts (by decide))
          have g71_22 : fx (fm.set 1 (.int 0)) 22 (.int 0) := (st_ne hm_limit (by decide))
          have g71_86 : fx (fm.set 1 (.int 0)) 86 (.int 0) := (st_ne hm_newPipes (by decide))
          have g71_85 : fx (fm.set 1 (.int 0)) 85 (.int 0) := (st_ne hm_newThings (by decide))
          have g71_11 : fx (fm.set 1 (.int 0)) 11 (.int 0) := (st_ne hm_pipes (by decide))
          have g71_21 : fx (fm.set 1 (.int 0)) 21 (.int 0) := (st_ne hm_place (by decide))
          have g71_2 : fx (fm.set 1 (.int 0)) 2 (.ref oT) := (st_ne hm_program (by decide))
          have g71_53 : fx (fm.set 1 (.int 0)) 53 (.ref am_senseWhat) := (st_ne hm_senseWhat (by decide))
          have g71_59 : fx (fm.set 1 (.int 0)) 59 (.int 4) := (st_ne hm_state (by decide))
          have g71_1 : fx (fm.set 1 (.int 0)) 1 (.int 0) := (st_eq hm_taped)
          have g71_4 : fx (fm.set 1 (.int 0)) 4 (.int 0) := (st_ne hm_things (by decide))
          have g71_58 : fx (fm.set 1 (.int 0)) 58 (.ref am_values) := (st_ne hm_values (by decide))
          have g71_26 : fx (fm.set 1 (.int 0)) 26 (.int 0) := (st_ne hm_ways (by decide))
          have hP : va_P (dC, dI) classes [(oM, .inr (12, (fm.set 1 (.int 0)))), (oT, .inr (13, ft)), (am_senseWhat, .inl (cI, 40, .inl ((fun _ => (-1))))), (am_values, .inl (cJ, 40, .inr (.inl (fun _ => 0)))), (oR, .inr (14, fr)), (am_lasts, .inl (cI, 44, .inl (fun _ => 0))), (am_cleaned, .inl (cI, 264, .inl (fun _ => 0)))] H := hP
          have hD : va_D A [(oM, .inr (12, (fm.set 1 (.int 0)))), (oT, .inr (13, ft)), (am_senseWhat, .inl (cI, 40, .inl ((fun _ => (-1))))), (am_values, .inl (cJ, 40, .inr (.inl (fun _ => 0)))), (oR, .inr (14, fr)), (am_lasts, .inl (cI, 44, .inl (fun _ => 0))), (am_cleaned, .inl (cI, 264, .inl (fun _ => 0)))] := hD
          refine lv_iload_n hx hb d_Mo_end_74 rfl (lv_at hl 1 rfl) ?_
          refine lv_if_ne (tgt := 80) hx hb d_Mo_end_75 (by decide) (fun h => absurd rfl h) (fun _ => ?_)
          refine lv_iconst (v := (-1)) hx hb d_Mo_end_78 (by decide) ?_
          exact W.iret (v := (-1)) hx hb hr (fun t ht hW => ⟨⟨_, (), rfl, (by unfold fn_Mo_end; rw [if_neg h1, if_neg h6, if_pos h10, if_pos h40]), trivial⟩, hS.F ht⟩) hS.2.2 d_Mo_end_79
        · refine lv_iload_n hx hb d_Mo_end_43 rfl (lv_at hl 1 rfl) ?_
          refine lv_if_eq (tgt := 69) hx hb d_Mo_end_44 (by decide) (fun _ => ?_) (fun h => absurd (by decide) h)
          refine lv_aload_n hx hb d_Mo_end_69 rfl (lv_at hl 2 rfl) ?_
          refine lv_iconst (v := 0) hx hb d_Mo_end_70 (by decide) ?_
          refine va_put (D := (dC, dI)) (ci := 12) (v := .int 0) (ty := .int) (C := R_Mo) (T := F_Mo) (N := 87) hx hb hts (fun w h => List.mem_cons_of_mem _ (in_Mo w h)) t_Mo t_Mo_ok n_Mo hown hK.1 hP hD hS 0 rfl rfl 1 (by decide) (hts _ (List.mem_cons_of_mem _ mw_1795)) (fun _ h9 => h9) rfl (by decide +kernel) rfl rfl (st_lt hm_taped) d_Mo_end_71 (fun H locs hP hD hS => ?_)
          have g71_17 : fx (fm.set 1 (.int 0)) 17 (.ref am_cleaned) := (st_ne hm_cleaned (by decide))
          have g71_3 : fx (fm.set 1 (.int 0)) 3 (.ref oR) := (st_ne hm_interlocks (by decide))
          have g71_16 : fx (fm.set 1 (.int 0)) 16 (.ref am_lasts) := (st_ne hm_lasts (by decide))
          have g71_22 : fx (fm.set 1 (.int 0)) 22 (.int 0) := (st_ne hm_limit (by decide))
          have g71_86 : fx (fm.set 1 (.int 0)) 86 (.int 0) := (st_ne hm_newPipes (by decide))
          have g71_85 : fx (fm.set 1 (.int 0)) 85 (.int 0) := (st_ne hm_newThings (by decide))
          have g71_11 : fx (fm.set 1 (.int 0)) 11 (.int 0) := (st_ne hm_pipes (by decide))
          have g71_21 : fx (fm.set 1 (.int 0)) 21 (.int 0) := (st_ne hm_place (by decide))
          have g71_2 : fx (fm.set 1 (.int 0)) 2 (.ref oT) := (st_ne hm_program (by decide))
          have g71_53 : fx (fm.set 1 (.int 0)) 53 (.ref am_senseWhat) := (st_ne hm_senseWhat (by decide))
          have g71_59 : fx (fm.set 1 (.int 0)) 59 (.int 4) := (st_ne hm_state (by decide))
          have g71_1 : fx (fm.set 1 (.int 0)) 1 (.int 0) := (st_eq hm_taped)
          have g71_4 : fx (fm.set 1 (.int 0)) 4 (.int 0) := (st_ne hm_things (by decide))
          have g71_58 : fx (fm.set 1 (.int 0)) 58 (.ref am_values) := (st_ne hm_values (by decide))
          have g71_26 : fx (fm.set 1 (.int 0)) 26 (.int 0) := (st_ne hm_ways (by decide))
          have hP : va_P (dC, dI) classes [(oM, .inr (12, (fm.set 1 (.int 0)))), (oT, .inr (13, ft)), (am_senseWhat, .inl (cI, 40, .inl ((fun _ => (-1))))), (am_values, .inl (cJ, 40, .inr (.inl (fun _ => 0)))), (oR, .inr (14, fr)), (am_lasts, .inl (cI, 44, .inl (fun _ => 0))), (am_cleaned, .inl (cI, 264, .inl (fun _ => 0)))] H := hP
          have hD : va_D A [(oM, .inr (12, (fm.set 1 (.int 0)))), (oT, .inr (13, ft)), (am_senseWhat, .inl (cI, 40, .inl ((fun _ => (-1))))), (am_values, .inl (cJ, 40, .inr (.inl (fun _ => 0)))), (oR, .inr (14, fr)), (am_lasts, .inl (cI, 44, .inl (fun _ => 0))), (am_cleaned, .inl (cI, 264, .inl (fun _ => 0)))] := hD
          refine lv_iload_n hx hb d_Mo_end_74 rfl (lv_at hl 1 rfl) ?_
          refine lv_if_ne (tgt := 80) hx hb d_Mo_end_75 (by decide) (fun h => absurd rfl h) (fun _ => ?_)
          refine lv_iconst (v := (-1)) hx hb d_Mo_end_78 (by decide) ?_
          exact W.iret (v := (-1)) hx hb hr (fun t ht hW => ⟨⟨_, (), rfl, (by unfold fn_Mo_end; rw [if_neg h1, if_neg h6, if_pos h10, if_neg h40]), trivial⟩, hS.F ht⟩) hS.2.2 d_Mo_end_79
      · refine lv_iload_n hx hb d_Mo_end_13 rfl (lv_at hl 2 rfl) ?_
        refine lv_sipush (v := 4000) hx hb d_Mo_end_14 (by decide) ?_
        refine lv_icmp_gt (tgt := 32) hx hb d_Mo_end_17 (by decide) (fun h17 => ?_) (fun h17 => ?_)
        · refine lv_iconst (v := 0) hx hb d_Mo_end_32 (by decide) ?_
          refine lv_istore_n hx hb d_Mo_end_33 rfl hl (by decide) rfl (fun ls hl => ?_)
          have hl : lv_has ls 6 [(3, .int 0), (0, .ref oM), (1, .int kd), (2, .int nn)] := hl
          refine lv_iconst (v := 0) hx hb d_Mo_end_34 (by decide) ?_
          refine lv_istore hx hb d_Mo_end_35 hl (by decide) rfl (fun ls hl => ?_)
          have hl : lv_has ls 6 [(4, .int 0), (3, .int 0), (0, .ref oM), (1, .int kd), (2, .int nn)] := hl
          refine lv_iload hx hb d_Mo_end_37 (lv_at hl 0 rfl) ?_
          refine lv_iload_n hx hb d_Mo_end_39 rfl (lv_at hl 4 rfl) ?_
          refine lv_icmp_ge (tgt := 69) hx hb d_Mo_end_40 (by decide) (fun h40 => ?_) (fun h40 => ?_)
          · refine lv_aload_n hx hb d_Mo_end_69 rfl (lv_at hl 2 rfl) ?_
            refine lv_iconst (v := 0) hx hb d_Mo_end_70 (by decide) ?_
            refine va_put (D := (dC, dI)) (ci := 12) (v := .int 0) (ty := .int) (C := R_Mo) (T := F_Mo) (N := 87) hx hb hts (fun w h => List.mem_cons_of_mem _ (in_Mo w h)) t_Mo t_Mo_ok n_Mo hown hK.1 hP hD hS 0 rfl rfl 1 (by decide) (hts _ (List.mem_cons_of_mem _ mw_1795)) (fun _ h9 => h9) rfl (by decide +kernel) rfl rfl (st_lt hm_taped) d_Mo_end_71 (fun H locs hP hD hS => ?_)
            have g71_17 : fx (fm.set 1 (.int 0)) 17 (.ref am_cleaned) := (st_ne hm_cleaned (by decide))
            have g71_3 : fx (fm.set 1 (.int 0)) 3 (.ref oR) := (st_ne hm_interlocks (by decide))
            have g71_16 : fx (fm.set 1 (.int 0)) 16 (.ref am_lasts) := (st_ne hm_lasts (by decide))
            have g71_22 : fx (fm.set 1 (.int 0)) 22 (.int 0) := (st_ne hm_limit (by decide))
            have g71_86 : fx (fm.set 1 (.int 0)) 86 (.int 0) := (st_ne hm_newPipes (by decide))
            have g71_85 : fx (fm.set 1 (.int 0)) 85 (.int 0) := (st_ne hm_newThings (by decide))
            have g71_11 : fx (fm.set 1 (.int 0)) 11 (.int 0) := (st_ne hm_pipes (by decide))
            have g71_21 : fx (fm.set 1 (.int 0)) 21 (.int 0) := (st_ne hm_place (by decide))
            have g71_2 : fx (fm.set 1 (.int 0)) 2 (.ref oT) := (st_ne hm_program (by decide))
            have g71_53 : fx (fm.set 1 (.int 0)) 53 (.ref am_senseWhat) := (st_ne hm_senseWhat (by decide))
            have g71_59 : fx (fm.set 1 (.int 0)) 59 (.int 4) := (st_ne hm_state (by decide))
            have g71_1 : fx (fm.set 1 (.int 0)) 1 (.int 0) := (st_eq hm_taped)
            have g71_4 : fx (fm.set 1 (.int 0)) 4 (.int 0) := (st_ne hm_things (by decide))
            have g71_58 : fx (fm.set 1 (.int 0)) 58 (.ref am_values) := (st_ne hm_values (by decide))
            have g71_26 : fx (fm.set 1 (.int 0)) 26 (.int 0) := (st_ne hm_ways (by decide))
            have hP : va_P (dC, dI) classes [(oM, .inr (12, (fm.set 1 (.int 0)))), (oT, .inr (13, ft)), (am_senseWhat, .inl (cI, 40, .inl ((fun _ => (-1))))), (am_values, .inl (cJ, 40, .inr (.inl (fun _ => 0)))), (oR, .inr (14, fr)), (am_lasts, .inl (cI, 44, .inl (fun _ => 0))), (am_cleaned, .inl (cI, 264, .inl (fun _ => 0)))] H := hP
            have hD : va_D A [(oM, .inr (12, (fm.set 1 (.int 0)))), (oT, .inr (13, ft)), (am_senseWhat, .inl (cI, 40, .inl ((fun _ => (-1))))), (am_values, .inl (cJ, 40, .inr (.inl (fun _ => 0)))), (oR, .inr (14, fr)), (am_lasts, .inl (cI, 44, .inl (fun _ => 0))), (am_cleaned, .inl (cI, 264, .inl (fun _ => 0)))] := hD
            refine lv_iload_n hx hb d_Mo_end_74 rfl (lv_at hl 1 rfl) ?_
            refine lv_if_ne (tgt := 80) hx hb d_Mo_end_75 (by decide) (fun h => absurd rfl h) (fun _ => ?_)
            refine lv_iconst (v := (-1)) hx hb d_Mo_end_78 (by decide) ?_
            exact W.iret (v := (-1)) hx hb hr (fun t ht hW => ⟨⟨_, (), rfl, (by unfold fn_Mo_end; rw [if_neg h1, if_neg h6, if_neg h10, if_pos h17, if_pos h40]), trivial⟩, hS.F ht⟩) hS.2.2 d_Mo_end_79
          · refine lv_iload_n hx hb d_Mo_end_43 rfl (lv_at hl 1 rfl) ?_
            refine lv_if_eq (tgt := 69) hx hb d_Mo_end_44 (by decide) (fun _ => ?_) (fun h => absurd (by decide) h)
            refine lv_aload_n hx hb d_Mo_end_69 rfl (lv_at hl 2 rfl) ?_
            refine lv_iconst (v := 0) hx hb d_Mo_end_70 (by decide) ?_
            refine va_put (D := (dC, dI)) (ci := 12) (v := .int 0) (ty := .int) (C := R_Mo) (T := F_Mo) (N := 87) hx hb hts (fun w h => List.mem_cons_of_mem _ (in_Mo w h)) t_Mo t_Mo_ok n_Mo hown hK.1 hP hD hS 0 rfl rfl 1 (by decide) (hts _ (List.mem_cons_of_mem _ mw_1795)) (fun _ h9 => h9) rfl (by decide +kernel) rfl rfl (st_lt hm_taped) d_Mo_end_71 (fun H locs hP hD hS => ?_)
            have g71_17 : fx (fm.set 1 (.int 0)) 17 (.ref am_cleaned) := (st_ne hm_cleaned (by decide))
            have g71_3 : fx (fm.set 1 (.int 0)) 3 (.ref oR) := (st_ne hm_interlocks (by decide))
            have g71_16 : fx (fm.set 1 (.int 0)) 16 (.ref am_lasts) := (st_ne hm_lasts (by decide))
            have g71_22 : fx (fm.set 1 (.int 0)) 22 (.int 0) := (st_ne hm_limit (by decide))
            have g71_86 : fx (fm.set 1 (.int 0)) 86 (.int 0) := (st_ne hm_newPipes (by decide))
            have g71_85 : fx (fm.set 1 (.int 0)) 85 (.int 0) := (st_ne hm_newThings (by decide))
            have g71_11 : fx (fm.set 1 (.int 0)) 11 (.int 0) := (st_ne hm_pipes (by decide))
            have g71_21 : fx (fm.set 1 (.int 0)) 21 (.int 0) := (st_ne hm_place (by decide))
            have g71_2 : fx (fm.set 1 (.int 0)) 2 (.ref oT) := (st_ne hm_program (by decide))
            have g71_53 : fx (fm.set 1 (.int 0)) 53 (.ref am_senseWhat) := (st_ne hm_senseWhat (by decide))
            have g71_59 : fx (fm.set 1 (.int 0)) 59 (.int 4) := (st_ne hm_state (by decide))
            have g71_1 : fx (fm.set 1 (.int 0)) 1 (.int 0) := (st_eq hm_taped)
            have g71_4 : fx (fm.set 1 (.int 0)) 4 (.int 0) := (st_ne hm_things (by decide))
            have g71_58 : fx (fm.set 1 (.int 0)) 58 (.ref am_values) := (st_ne hm_values (by decide))
            have g71_26 : fx (fm.set 1 (.int 0)) 26 (.int 0) := (st_ne hm_ways (by decide))
            have hP : va_P (dC, dI) classes [(oM, .inr (12, (fm.set 1 (.int 0)))), (oT, .inr (13, ft)), (am_senseWhat, .inl (cI, 40, .inl ((fun _ => (-1))))), (am_values, .inl (cJ, 40, .inr (.inl (fun _ => 0)))), (oR, .inr (14, fr)), (am_lasts, .inl (cI, 44, .inl (fun _ => 0))), (am_cleaned, .inl (cI, 264, .inl (fun _ => 0)))] H := hP
            have hD : va_D A [(oM, .inr (12, (fm.set 1 (.int 0)))), (oT, .inr (13, ft)), (am_senseWhat, .inl (cI, 40, .inl ((fun _ => (-1))))), (am_values, .inl (cJ, 40, .inr (.inl (fun _ => 0)))), (oR, .inr (14, fr)), (am_lasts, .inl (cI, 44, .inl (fun _ => 0))), (am_cleaned, .inl (cI, 264, .inl (fun _ => 0)))] := hD
            refine lv_iload_n hx hb d_Mo_end_74 rfl (lv_at hl 1 rfl) ?_
            refine lv_if_ne (tgt := 80) hx hb d_Mo_end_75 (by decide) (fun h => absurd rfl h) (fun _ => ?_)
            refine lv_iconst (v := (-1)) hx hb d_Mo_end_78 (by decide) ?_
            exact W.iret (v := (-1)) hx hb hr (fun t ht hW => ⟨⟨_, (), rfl, (by unfold fn_Mo_end; rw [if_neg h1, if_neg h6, if_neg h10, if_pos h17, if_neg h40]), trivial⟩, hS.F ht⟩) hS.2.2 d_Mo_end_79
        · refine lv_iload_n hx hb d_Mo_end_20 rfl (lv_at hl 2 rfl) ?_
          refine lv_aload_n hx hb d_Mo_end_21 rfl (lv_at hl 0 rfl) ?_
          refine va_get (D := (dC, dI)) (ci := 12) (v := .int 0) (C := R_Mo) (T := F_Mo) (N := 87) hx hb hts (fun w h => List.mem_cons_of_mem _ (in_Mo w h)) hown hK.1 hP 0 rfl rfl 1 (by decide) (hts _ (List.mem_cons_of_mem _ mw_1795)) (fun _ h9 => h9) hm_taped d_Mo_end_22 ?_
          refine lv_icmp_gt (tgt := 32) hx hb d_Mo_end_25 (by decide) (fun h25 => ?_) (fun h25 => ?_)
          · refine lv_iconst (v := 0) hx hb d_Mo_end_32 (by decide) ?_
            refine lv_istore_n hx hb d_Mo_end_33 rfl hl (by decide) rfl (fun ls hl => ?_)
            have hl : lv_has ls 6 [(3, .int 0), (0, .ref oM), (1, .int kd), (2, .int nn)] := hl
            refine lv_iconst (v := 0) hx hb d_Mo_end_34 (by decide) ?_
            refine lv_istore hx hb d_Mo_end_35 hl (by decide) rfl (fun ls hl => ?_)
            have hl : lv_has ls 6 [(4, .int 0), (3, .int 0), (0, .ref oM), (1, .int kd), (2, .int nn)] := hl
            refine lv_iload hx hb d_Mo_end_37 (lv_at hl 0 rfl) ?_
            refine lv_iload_n hx hb d_Mo_end_39 rfl (lv_at hl 4 rfl) ?_
            refine lv_icmp_ge (tgt := 69) hx hb d_Mo_end_40 (by decide) (fun h => absurd h (Int32.not_le.mpr h25)) (fun _ => ?_)
            refine lv_iload_n hx hb d_Mo_end_43 rfl (lv_at hl 1 rfl) ?_
            refine lv_if_eq (tgt := 69) hx hb d_Mo_end_44 (by decide) (fun _ => ?_) (fun h => absurd (by decide) h)
            refine lv_aload_n hx hb d_Mo_end_69 rfl (lv_at hl 2 rfl) ?_
            refine lv_iconst (v := 0) hx hb d_Mo_end_70 (by decide) ?_
            refine va_put (D := (dC, dI)) (ci := 12) (v := .int 0) (ty := .int) (C := R_Mo) (T := F_Mo) (N := 87) hx hb hts (fun w h => List.mem_cons_of_mem _ (in_Mo w h)) t_Mo t_Mo_ok n_Mo hown hK.1 hP hD hS 0 rfl rfl 1 (by decide) (hts _ (List.mem_cons_of_mem _ mw_1795)) (fun _ h9 => h9) rfl (by decide +kernel) rfl rfl (st_lt hm_taped) d_Mo_end_71 (fun H locs hP hD hS => ?_)
            have g71_17 : fx (fm.set 1 (.int 0)) 17 (.ref am_cleaned) := (st_ne hm_cleaned (by decide))
            have g71_3 : fx (fm.set 1 (.int 0)) 3 (.ref oR) := (st_ne hm_interlocks (by decide))
            have g71_16 : fx (fm.set 1 (.int 0)) 16 (.ref am_lasts) := (st_ne hm_lasts (by decide))
            have g71_22 : fx (fm.set 1 (.int 0)) 22 (.int 0) := (st_ne hm_limit (by decide))
            have g71_86 : fx (fm.set 1 (.int 0)) 86 (.int 0) := (st_ne hm_newPipes (by decide))
            have g71_85 : fx (fm.set 1 (.int 0)) 85 (.int 0) := (st_ne hm_newThings (by decide))
            have g71_11 : fx (fm.set 1 (.int 0)) 11 (.int 0) := (st_ne hm_pipes (by decide))
            have g71_21 : fx (fm.set 1 (.int 0)) 21 (.int 0) := (st_ne hm_place (by decide))
            have g71_2 : fx (fm.set 1 (.int 0)) 2 (.ref oT) := (st_ne hm_program (by decide))
            have g71_53 : fx (fm.set 1 (.int 0)) 53 (.ref am_senseWhat) := (st_ne hm_senseWhat (by decide))
            have g71_59 : fx (fm.set 1 (.int 0)) 59 (.int 4) := (st_ne hm_state (by decide))
            have g71_1 : fx (fm.set 1 (.int 0)) 1 (.int 0) := (st_eq hm_taped)
            have g71_4 : fx (fm.set 1 (.int 0)) 4 (.int 0) := (st_ne hm_things (by decide))
            have g71_58 : fx (fm.set 1 (.int 0)) 58 (.ref am_values) := (st_ne hm_values (by decide))
            have g71_26 : fx (fm.set 1 (.int 0)) 26 (.int 0) := (st_ne hm_ways (by decide))
            have hP : va_P (dC, dI) classes [(oM, .inr (12, (fm.set 1 (.int 0)))), (oT, .inr (13, ft)), (am_senseWhat, .inl (cI, 40, .inl ((fun _ => (-1))))), (am_values, .inl (cJ, 40, .inr (.inl (fun _ => 0)))), (oR, .inr (14, fr)), (am_lasts, .inl (cI, 44, .inl (fun _ => 0))), (am_cleaned, .inl (cI, 264, .inl (fun _ => 0)))] H := hP
            have hD : va_D A [(oM, .inr (12, (fm.set 1 (.int 0)))), (oT, .inr (13, ft)), (am_senseWhat, .inl (cI, 40, .inl ((fun _ => (-1))))), (am_values, .inl (cJ, 40, .inr (.inl (fun _ => 0)))), (oR, .inr (14, fr)), (am_lasts, .inl (cI, 44, .inl (fun _ => 0))), (am_cleaned, .inl (cI, 264, .inl (fun _ => 0)))] := hD
            refine lv_iload_n hx hb d_Mo_end_74 rfl (lv_at hl 1 rfl) ?_
            refine lv_if_ne (tgt := 80) hx hb d_Mo_end_75 (by decide) (fun h => absurd rfl h) (fun _ => ?_)
            refine lv_iconst (v := (-1)) hx hb d_Mo_end_78 (by decide) ?_
            exact W.iret (v := (-1)) hx hb hr (fun t ht hW => ⟨⟨_, (), rfl, (by unfold fn_Mo_end; rw [if_neg h1, if_neg h6, if_neg h10, if_neg h17, if_pos h25]), trivial⟩, hS.F ht⟩) hS.2.2 d_Mo_end_79
          · refine lv_iconst (v := 1) hx hb d_Mo_end_28 (by decide) ?_
            refine lv_goto (tgt := 33) hx hb d_Mo_end_29 (by decide) ?_
            refine lv_istore_n hx hb d_Mo_end_33 rfl hl (by decide) rfl (fun ls hl => ?_)
            have hl : lv_has ls 6 [(3, .int 1), (0, .ref oM), (1, .int kd), (2, .int nn)] := hl
            refine lv_iconst (v := 0) hx hb d_Mo_end_34 (by decide) ?_
            refine lv_istore hx hb d_Mo_end_35 hl (by decide) rfl (fun ls hl => ?_)
            have hl : lv_has ls 6 [(4, .int 0), (3, .int 1), (0, .ref oM), (1, .int kd), (2, .int nn)] := hl
            refine lv_iload hx hb d_Mo_end_37 (lv_at hl 0 rfl) ?_
            refine lv_iload_n hx hb d_Mo_end_39 rfl (lv_at hl 4 rfl) ?_
            refine lv_icmp_ge (tgt := 69) hx hb d_Mo_end_40 (by decide) (fun _ => ?_) (fun h => absurd (nu_le h25 (by decide)) h)
            refine lv_aload_n hx hb d_Mo_end_69 rfl (lv_at hl 2 rfl) ?_
            refine lv_iconst (v := 0) hx hb d_Mo_end_70 (by decide) ?_
            refine va_put (D := (dC, dI)) (ci := 12) (v := .int 0) (ty := .int) (C := R_Mo) (T := F_Mo) (N := 87) hx hb hts (fun w h => List.mem_cons_of_mem _ (in_Mo w h)) t_Mo t_Mo_ok n_Mo hown hK.1 hP hD hS 0 rfl rfl 1 (by decide) (hts _ (List.mem_cons_of_mem _ mw_1795)) (fun _ h9 => h9) rfl (by decide +kernel) rfl rfl (st_lt hm_taped) d_Mo_end_71 (fun H locs hP hD hS => ?_)
            have g71_17 : fx (fm.set 1 (.int 0)) 17 (.ref am_cleaned) := (st_ne hm_cleaned (by decide))
            have g71_3 : fx (fm.set 1 (.int 0)) 3 (.ref oR) := (st_ne hm_interlocks (by decide))
            have g71_16 : fx (fm.set 1 (.int 0)) 16 (.ref am_lasts) := (st_ne hm_lasts (by decide))
            have g71_22 : fx (fm.set 1 (.int 0)) 22 (.int 0) := (st_ne hm_limit (by decide))
            have g71_86 : fx (fm.set 1 (.int 0)) 86 (.int 0) := (st_ne hm_newPipes (by decide))
            have g71_85 : fx (fm.set 1 (.int 0)) 85 (.int 0) := (st_ne hm_newThings (by decide))
            have g71_11 : fx (fm.set 1 (.int 0)) 11 (.int 0) := (st_ne hm_pipes (by decide))
            have g71_21 : fx (fm.set 1 (.int 0)) 21 (.int 0) := (st_ne hm_place (by decide))
            have g71_2 : fx (fm.set 1 (.int 0)) 2 (.ref oT) := (st_ne hm_program (by decide))
            have g71_53 : fx (fm.set 1 (.int 0)) 53 (.ref am_senseWhat) := (st_ne hm_senseWhat (by decide))
            have g71_59 : fx (fm.set 1 (.int 0)) 59 (.int 4) := (st_ne hm_state (by decide))
            have g71_1 : fx (fm.set 1 (.int 0)) 1 (.int 0) := (st_eq hm_taped)
            have g71_4 : fx (fm.set 1 (.int 0)) 4 (.int 0) := (st_ne hm_things (by decide))
            have g71_58 : fx (fm.set 1 (.int 0)) 58 (.ref am_values) := (st_ne hm_values (by decide))
            have g71_26 : fx (fm.set 1 (.int 0)) 26 (.int 0) := (st_ne hm_ways (by decide))
            have hP : va_P (dC, dI) classes [(oM, .inr (12, (fm.set 1 (.int 0)))), (oT, .inr (13, ft)), (am_senseWhat, .inl (cI, 40, .inl ((fun _ => (-1))))), (am_values, .inl (cJ, 40, .inr (.inl (fun _ => 0)))), (oR, .inr (14, fr)), (am_lasts, .inl (cI, 44, .inl (fun _ => 0))), (am_cleaned, .inl (cI, 264, .inl (fun _ => 0)))] H := hP
            have hD : va_D A [(oM, .inr (12, (fm.set 1 (.int 0)))), (oT, .inr (13, ft)), (am_senseWhat, .inl (cI, 40, .inl ((fun _ => (-1))))), (am_values, .inl (cJ, 40, .inr (.inl (fun _ => 0)))), (oR, .inr (14, fr)), (am_lasts, .inl (cI, 44, .inl (fun _ => 0))), (am_cleaned, .inl (cI, 264, .inl (fun _ => 0)))] := hD
            refine lv_iload_n hx hb d_Mo_end_74 rfl (lv_at hl 1 rfl) ?_
            refine lv_if_ne (tgt := 80) hx hb d_Mo_end_75 (by decide) (fun _ => ?_) (fun h => absurd h (by decide))
            refine lv_iload_n hx hb d_Mo_end_80 rfl (lv_at hl 3 rfl) ?_
            refine lv_if_ne (tgt := 94) hx hb d_Mo_end_81 (by decide) (fun h81 => ?_) (fun h81 => ?_)
            · refine lv_iconst (v := 0) hx hb d_Mo_end_94 (by decide) ?_
              refine lv_istore hx hb d_Mo_end_95 hl (by decide) rfl (fun ls hl => ?_)
              have hl : lv_has ls 6 [(4, .int 0), (3, .int 1), (0, .ref oM), (1, .int kd), (2, .int nn)] := hl
              refine lv_iload hx hb d_Mo_end_97 (lv_at hl 0 rfl) ?_
              refine lv_iload_n hx hb d_Mo_end_99 rfl (lv_at hl 4 rfl) ?_
              refine lv_icmp_ge (tgt := 147) hx hb d_Mo_end_100 (by decide) (fun _ => ?_) (fun h => absurd (nu_le h25 (by decide)) h)
              refine lv_iload_n hx hb d_Mo_end_147 rfl (lv_at hl 3 rfl) ?_
              refine lv_iconst (v := 1) hx hb d_Mo_end_148 (by decide) ?_
              refine lv_icmp_ne (tgt := 162) hx hb d_Mo_end_149 (by decide) (fun h149 => ?_) (fun h149 => ?_)
              · refine lv_aload_n hx hb d_Mo_end_162 rfl (lv_at hl 2 rfl) ?_
                refine va_get (D := (dC, dI)) (ci := 12) (v := .ref oT) (C := R_Mo) (T := F_Mo) (N := 87) hx hb hts (fun w h => List.mem_cons_of_mem _ (in_Mo w h)) hown hK.1 hP 0 rfl rfl 2 (by decide) (hts _ (List.mem_cons_of_mem _ mw_1796)) (fun _ h9 => h9) g71_2 d_Mo_end_163 ?_
                have hPc := hP.sub (ws' := [(oT, .inr (13, ft))]) [1] rfl
                have hDc := hD.sub (ws' := [(oT, .inr (13, ft))]) [1] (by decide) rfl
                have hFc := va_free (wc := [(oT, .inr (13, ft))]) hD hS hA [1] rfl
                refine va_calli (va_runV (C := R_Tx) (As := []) (rest := []) ⟨hx, hb, hml, hown, hts⟩ (c_Tx_read l dC dI cI cB cZ cJ oT ft ht_size ht_place ht_nowLine ht_token ht_begin ht_end ht_tokenLine ht_wrong ht_open ht_half ht_nodes ht_kidsMade ht_topsMade ht_names ht_nodeCount ht_topCount ht_nameCount ht_statements ht_high ht_made H.size) (cwV 0 hts (tb_V mw_2174 mw_2175 mw_2176 mw_19 mw_2177) rfl rfl rfl ⟨rfl, by decide +kernel, by decide +kernel, by decide +kernel⟩ ⟨(Nat.le_of_ble_eq_true rfl), (Nat.le_of_ble_eq_true rfl)⟩) ⟨pw_blind, va_recv (q := (R_Tx, F_Tx, 39)) hK.1 hP (ci := 13) (q0 := 1) rfl rfl, pw_pre hPc hK hDc⟩ rfl rfl hl.1 rfl (lv_room (Nat.le_of_ble_eq_true rfl)) d_Mo_end_166 ⟨(Nat.le_of_ble_eq_true rfl), (Nat.le_of_ble_eq_true rfl)⟩) hS (fun q _ h => hFc q h) hFc (fun r u t H locs ht hvm hw hB hz1 hk1 hS => ?_)
                obtain ⟨hP, hD⟩ := va_join (wr := [(oM, .inr (12, (fm.set 1 (.int 0)))), (am_senseWhat, .inl (cI, 40, .inl ((fun _ => (-1))))), (am_values, .inl (cJ, 40, .inr (.inl (fun _ => 0)))), (oR, .inr (14, fr)), (am_lasts, .inl (cI, 44, .inl (fun _ => 0))), (am_cleaned, .inl (cI, 264, .inl (fun _ => 0)))]) (w1 := []) hP hD [1] [0, 2, 3, 4, 5, 6] rfl rfl (by decide) (by decide) hk1 hFc wn_P wn_D
                have hP : va_P (dC, dI) classes [(oM, .inr (12, (fm.set 1 (.int 0)))), (am_senseWhat, .inl (cI, 40, .inl ((fun _ => (-1))))), (am_values, .inl (cJ, 40, .inr (.inl (fun _ => 0)))), (oR, .inr (14, fr)), (am_lasts, .inl (cI, 44, .inl (fun _ => 0))), (am_cleaned, .inl (cI, 264, .inl (fun _ => 0)))] H := hP
                have hD : va_D A [(oM, .inr (12, (fm.set 1 (.int 0)))), (am_senseWhat, .inl (cI, 40, .inl ((fun _ => (-1))))), (am_values, .inl (cJ, 40, .inr (.inl (fun _ => 0)))), (oR, .inr (14, fr)), (am_lasts, .inl (cI, 44, .inl (fun _ => 0))), (am_cleaned, .inl (cI, 264, .inl (fun _ => 0)))] := hD
                obtain rfl : r = 0 := hw
                refine lv_istore hx hb d_Mo_end_169 hl (by decide) rfl (fun ls hl => ?_)
                have hl : lv_has ls 6 [(4, .int 0), (3, .int 1), (0, .ref oM), (1, .int kd), (2, .int nn)] := hl
                refine lv_iload_n hx hb d_Mo_end_171 rfl (lv_at hl 3 rfl) ?_
                refine lv_iconst (v := 2) hx hb d_Mo_end_172 (by decide) ?_
                refine lv_icmp_ne (tgt := 222) hx hb d_Mo_end_173 (by decide) (fun h173 => ?_) (fun h173 => ?_)
                · refine lv_iload hx hb d_Mo_end_222 (lv_at hl 0 rfl) ?_
                  refine lv_if_ge (tgt := 234) hx hb d_Mo_end_224 (by decide) (fun _ => ?_) (fun h => absurd (by decide) h)
                  refine lv_iload hx hb d_Mo_end_234 (lv_at hl 0 rfl) ?_
                  exact W.iret (v := 0) hx hb hr (fun t ht hW => ⟨⟨_, (), rfl, (by unfold fn_Mo_end; rw [if_neg h1, if_neg h6, if_neg h10, if_neg h17, if_neg h25, if_neg h81, if_neg h149, if_neg h173]), trivial⟩, hS.F ht⟩) hS.2.2 d_Mo_end_236
                · refine lv_iload hx hb d_Mo_end_176 (lv_at hl 0 rfl) ?_
                  refine lv_if_lt (tgt := 222) hx hb d_Mo_end_178 (by decide) (fun h => absurd h (by decide)) (fun _ => ?_)
                  refine lv_aload_n hx hb d_Mo_end_181 rfl (lv_at hl 2 rfl) ?_
                  refine lv_iconst (v := 4) hx hb d_Mo_end_182 (by decide) ?_
                  refine va_put (D := (dC, dI)) (ci := 12) (v := .int 4) (ty := .int) (C := R_Mo) (T := F_Mo) (N := 87) hx hb hts (fun w h => List.mem_cons_of_mem _ (in_Mo w h)) t_Mo t_Mo_ok n_Mo hown hK.1 hP hD hS 0 rfl rfl 59 (by decide) (hts _ (List.mem_cons_of_mem _ mw_1853)) (fun _ h9 => h9) rfl (by decide +kernel) rfl rfl (st_lt g71_59) d_Mo_end_183 (fun H locs hP hD hS => ?_)
                  have g183_17 : fx ((fm.set 1 (.int 0)).set 59 (.int 4)) 17 (.ref am_cleaned) := (st_ne g71_17 (by decide))
                  have g183_3 : fx ((fm.set 1 (.int 0)).set 59 (.int 4)) 3 (.ref oR) := (st_ne g71_3 (by decide))
                  have g183_16 : fx ((fm.set 1 (.int 0)).set 59 (.int 4)) 16 (.ref am_lasts) := (st_ne g71_16 (by decide))
                  have g183_22 : fx ((fm.set 1 (.int 0)).set 59 (.int 4)) 22 (.int 0) := (st_ne g71_22 (by decide))
                  have g183_86 : fx ((fm.set 1 (.int 0)).set 59 (.int 4)) 86 (.int 0) := (st_ne g71_86 (by decide))
                  have g183_85 : fx ((fm.set 1 (.int 0)).set 59 (.int 4)) 85 (.int 0) := (st_ne g71_85 (by decide))
                  have g183_11 : fx ((fm.set 1 (.int 0)).set 59 (.int 4)) 11 (.int 0) := (st_ne g71_11 (by decide))
                  have g183_21 : fx ((fm.set 1 (.int 0)).set 59 (.int 4)) 21 (.int 0) := (st_ne g71_21 (by decide))
                  have g183_2 : fx ((fm.set 1 (.int 0)).set 59 (.int 4)) 2 (.ref oT) := (st_ne g71_2 (by decide))
                  have g183_53 : fx ((fm.set 1 (.int 0)).set 59 (.int 4)) 53 (.ref am_senseWhat) := (st_ne g71_53 (by decide))
                  have g183_59 : fx ((fm.set 1 (.int 0)).set 59 (.int 4)) 59 (.int 4) := (st_eq g71_59)
                  have g183_1 : fx ((fm.set 1 (.int 0)).set 59 (.int 4)) 1 (.int 0) := (st_ne g71_1 (by decide))
                  have g183_4 : fx ((fm.set 1 (.int 0)).set 59 (.int 4)) 4 (.int 0) := (st_ne g71_4 (by decide))
                  have g183_58 : fx ((fm.set 1 (.int 0)).set 59 (.int 4)) 58 (.ref am_values) := (st_ne g71_58 (by decide))
                  have g183_26 : fx ((fm.set 1 (.int 0)).set 59 (.int 4)) 26 (.int 0) := (st_ne g71_26 (by decide))
                  have hP : va_P (dC, dI) classes [(oM, .inr (12, ((fm.set 1 (.int 0)).set 59 (.int 4)))), (am_senseWhat, .inl (cI, 40, .inl ((fun _ => (-1))))), (am_values, .inl (cJ, 40, .inr (.inl (fun _ => 0)))), (oR, .inr (14, fr)), (am_lasts, .inl (cI, 44, .inl (fun _ => 0))), (am_cleaned, .inl (cI, 264, .inl (fun _ => 0)))] H := hP
                  have hD : va_D A [(oM, .inr (12, ((fm.set 1 (.int 0)).set 59 (.int 4)))), (am_senseWhat, .inl (cI, 40, .inl ((fun _ => (-1))))), (am_values, .inl (cJ, 40, .inr (.inl (fun _ => 0)))), (oR, .inr (14, fr)), (am_lasts, .inl (cI, 44, .inl (fun _ => 0))), (am_cleaned, .inl (cI, 264, .inl (fun _ => 0)))] := hD
                  refine lv_aload_n hx hb d_Mo_end_186 rfl (lv_at hl 2 rfl) ?_
                  have hPc := hP.sub (ws' := [(oM, .inr (12, ((fm.set 1 (.int 0)).set 59 (.int 4))))]) [0] rfl
                  have hDc := hD.sub (ws' := [(oM, .inr (12, ((fm.set 1 (.int 0)).set 59 (.int 4))))]) [0] (by decide) rfl
                  have hFc := pu_free hS hA
                  refine va_callv (va_runV (C := R_Mo) (As := []) (rest := []) ⟨hx, hb, hml, hown, hts⟩ (c_Mo_closeAll l dC dI cI cB cZ cJ oM (((fm.set 1 (.int 0)).set 59 (.int 4))) g183_26 H.size) (cwV 0 hts (tb_V mw_2335 mw_2337 sl_139 mw_18 mw_2338) rfl rfl rfl ⟨rfl, by decide +kernel, by decide +kernel, by decide +kernel⟩ ⟨(Nat.le_of_ble_eq_true rfl), (Nat.le_of_ble_eq_true rfl)⟩) ⟨pw_blind, va_recv (q := (R_Mo, F_Mo, 87)) hK.1 hP (ci := 12) (q0 := 0) rfl rfl, pw_pre hPc hK hDc⟩ rfl rfl hl.1 rfl (lv_room (Nat.le_of_ble_eq_true rfl)) d_Mo_end_187 ⟨(Nat.le_of_ble_eq_true rfl), (Nat.le_of_ble_eq_true rfl)⟩) hS (fun q _ h => hFc q h) hFc (fun u t H locs ht hvm hw hB hz1 hk1 hS => ?_)
                  have hP := pu_kept hP hk1
                  refine lv_iconst (v := 0) hx hb d_Mo_end_190 (by decide) ?_
                  refine lv_istore hx hb d_Mo_end_191 hl (by decide) rfl (fun ls hl => ?_)
                  have hl : lv_has ls 6 [(5, .int 0), (4, .int 0), (3, .int 1), (0, .ref oM), (1, .int kd), (2, .int nn)] := hl
                  have hl : lv_has ls 6 [(5, .int (nI 0)), (4, .int 0), (3, .int 1), (0, .ref oM), (1, .int kd), (2, .int nn)] := lv_sub hl [0, 1, 2, 3, 4, 5] rfl
                  refine lp_ind (σ := (Nat → Int32) × (Nat → Int64)) (fun i x H locs ls => va_P (dC, dI) classes [(oM, .inr (12, ((fm.set 1 (.int 0)).set 59 (.int 4)))), (am_senseWhat, .inl (cI, 40, .inl x.1)), (am_values, .inl (cJ, 40, .inr (.inl x.2))), (oR, .inr (14, fr)), (am_lasts, .inl (cI, 44, .inl (fun _ => 0))), (am_cleaned, .inl (cI, 264, .inl (fun _ => 0)))] H ∧ va_D A [(oM, .inr (12, ((fm.set 1 (.int 0)).set 59 (.int 4)))), (am_senseWhat, .inl (cI, 40, .inl x.1)), (am_values, .inl (cJ, 40, .inr (.inl x.2))), (oR, .inr (14, fr)), (am_lasts, .inl (cI, 44, .inl (fun _ => 0))), (am_cleaned, .inl (cI, 264, .inl (fun _ => 0)))] ∧ va_S A s.heap H locs ∧ lv_has ls 6 [(5, .int (nI i)), (4, .int 0), (3, .int 1), (0, .ref oM), (1, .int kd), (2, .int nn)]) 193 40 ?_ ?_ 0 ((fun _ => (-1)), (fun _ => 0)) _ _ _ (Nat.zero_le _) ⟨hP, hD, hS, hl⟩
                  · intro i x H locs ls hi hI hki
                    obtain ⟨xi_1, xi_2⟩ := x
                    obtain ⟨hP, hD, hS, hl⟩ := hI
                    have hP : va_P (dC, dI) classes [(oM, .inr (12, ((fm.set 1 (.int 0)).set 59 (.int 4)))), (am_senseWhat, .inl (cI, 40, .inl xi_1)), (am_values, .inl (cJ, 40, .inr (.inl xi_2))), (oR, .inr (14, fr)), (am_lasts, .inl (cI, 44, .inl (fun _ => 0))), (am_cleaned, .inl (cI, 264, .inl (fun _ => 0)))] H := hP
                    have hD : va_D A [(oM, .inr (12, ((fm.set 1 (.int 0)).set 59 (.int 4)))), (am_senseWhat, .inl (cI, 40, .inl xi_1)), (am_values, .inl (cJ, 40, .inr (.inl xi_2))), (oR, .inr (14, fr)), (am_lasts, .inl (cI, 44, .inl (fun _ => 0))), (am_cleaned, .inl (cI, 264, .inl (fun _ => 0)))] := hD
                    have hl : lv_has ls 6 [(5, .int (nI i)), (4, .int 0), (3, .int 1), (0, .ref oM), (1, .int kd), (2, .int nn)] := hl
                    refine lv_iload hx hb d_Mo_end_193 (lv_at hl 0 rfl) ?_
                    refine lv_bipush (v := 40) hx hb d_Mo_end_195 (by decide) ?_
                    refine lv_icmp_ge (tgt := 222) hx hb d_Mo_end_197 (by decide) (fun h => absurd h (show ¬ (40 : Int32) ≤ nI i from nI_ge hi (by decide))) (fun _ => ?_)
                    refine lv_aload_n hx hb d_Mo_end_200 rfl (lv_at hl 3 rfl) ?_
                    refine va_get (D := (dC, dI)) (ci := 12) (v := .ref am_senseWhat) (C := R_Mo) (T := F_Mo) (N := 87) hx hb hts (fun w h => List.mem_cons_of_mem _ (in_Mo w h)) hown hK.1 hP 0 rfl rfl 53 (by decide) (hts _ (List.mem_cons_of_mem _ mw_1847)) (fun _ h9 => h9) g183_53 d_Mo_end_201 ?_
                    refine lv_iload hx hb d_Mo_end_204 (lv_at hl 0 rfl) ?_
                    refine lv_iconst (v := (-1)) hx hb d_Mo_end_206 (by decide) ?_
                    refine va_iast hx hb hK.1 hP hD hS 1 0 rfl rfl (vp_in_nI hi (by decide)) d_Mo_end_207 (fun H locs hP hD hS => ?_)
                    have hP : va_P (dC, dI) classes [(oM, .inr (12, ((fm.set 1 (.int 0)).set 59 (.int 4)))), (am_senseWhat, .inl (cI, 40, .inl ((upd xi_1 ((nI i) : Int32).toNatClampNeg (-1))))), (am_values, .inl (cJ, 40, .inr (.inl xi_2))), (oR, .inr (14, fr)), (am_lasts, .inl (cI, 44, .inl (fun _ => 0))), (am_cleaned, .inl (cI, 264, .inl (fun _ => 0)))] H := hP
                    have hD : va_D A [(oM, .inr (12, ((fm.set 1 (.int 0)).set 59 (.int 4)))), (am_senseWhat, .inl (cI, 40, .inl ((upd xi_1 ((nI i) : Int32).toNatClampNeg (-1))))), (am_values, .inl (cJ, 40, .inr (.inl xi_2))), (oR, .inr (14, fr)), (am_lasts, .inl (cI, 44, .inl (fun _ => 0))), (am_cleaned, .inl (cI, 264, .inl (fun _ => 0)))] := hD
                    generalize (upd xi_1 ((nI i) : Int32).toNatClampNeg (-1)) = f207_11 at hP hD
                    refine lv_aload_n hx hb d_Mo_end_208 rfl (lv_at hl 3 rfl) ?_
                    refine va_get (D := (dC, dI)) (ci := 12) (v := .ref am_values) (C := R_Mo) (T := F_Mo) (N := 87) hx hb hts (fun w h => List.mem_cons_of_mem _ (in_Mo w h)) hown hK.1 hP 0 rfl rfl 58 (by decide) (hts _ (List.mem_cons_of_mem _ mw_1852)) (fun _ h9 => h9) g183_58 d_Mo_end_209 ?_
                    refine lv_iload hx hb d_Mo_end_212 (lv_at hl 0 rfl) ?_
                    refine lv_lconst (v := 0) hx hb d_Mo_end_214 (by decide) ?_
                    refine va_last hx hb hK.1 hP hD hS 2 3 rfl rfl (vp_in_nI hi (by decide)) d_Mo_end_215 (fun H locs hP hD hS => ?_)
                    have hP : va_P (dC, dI) classes [(oM, .inr (12, ((fm.set 1 (.int 0)).set 59 (.int 4)))), (am_senseWhat, .inl (cI, 40, .inl f207_11)), (am_values, .inl (cJ, 40, .inr (.inl ((vp_updL xi_2 ((nI i) : Int32).toNatClampNeg 0))))), (oR, .inr (14, fr)), (am_lasts, .inl (cI, 44, .inl (fun _ => 0))), (am_cleaned, .inl (cI, 264, .inl (fun _ => 0)))] H := hP
                    have hD : va_D A [(oM, .inr (12, ((fm.set 1 (.int 0)).set 59 (.int 4)))), (am_senseWhat, .inl (cI, 40, .inl f207_11)), (am_values, .inl (cJ, 40, .inr (.inl ((vp_updL xi_2 ((nI i) : Int32).toNatClampNeg 0))))), (oR, .inr (14, fr)), (am_lasts, .inl (cI, 44, .inl (fun _ => 0))), (am_cleaned, .inl (cI, 264, .inl (fun _ => 0)))] := hD
                    generalize (vp_updL xi_2 ((nI i) : Int32).toNatClampNeg 0) = f215_12 at hP hD
                    refine lv_iinc (k := 0) (v := (nI (i + 1))) hx hb d_Mo_end_216 hl rfl (by first | rfl | decide | exact nI_1 i | exact pv_1 j hj) (by decide) rfl (fun ls hl => ?_)
                    have hl : lv_has ls 6 [(5, .int (nI (i + 1))), (4, .int 0), (3, .int 1), (0, .ref oM), (1, .int kd), (2, .int nn)] := hl
                    refine lv_goto (tgt := 193) hx hb d_Mo_end_219 (by decide) ?_
                    have hl : lv_has ls 6 [(5, .int (nI (i + 1))), (4, .int 0), (3, .int 1), (0, .ref oM), (1, .int kd), (2, .int nn)] := lv_sub hl [0, 1, 2, 3, 4, 5] rfl
                    exact hki (f207_11, f215_12) H locs ls ⟨hP, hD, hS, hl⟩
                  · intro x H locs ls hI
                    obtain ⟨xi_1, xi_2⟩ := x
                    obtain ⟨hP, hD, hS, hl⟩ := hI
                    have hP : va_P (dC, dI) classes [(oM, .inr (12, ((fm.set 1 (.int 0)).set 59 (.int 4)))), (am_senseWhat, .inl (cI, 40, .inl xi_1)), (am_values, .inl (cJ, 40, .inr (.inl xi_2))), (oR, .inr (14, fr)), (am_lasts, .inl (cI, 44, .inl (fun _ => 0))), (am_cleaned, .inl (cI, 264, .inl (fun _ => 0)))] H := hP
                    have hD : va_D A [(oM, .inr (12, ((fm.set 1 (.int 0)).set 59 (.int 4)))), (am_senseWhat, .inl (cI, 40, .inl xi_1)), (am_values, .inl (cJ, 40, .inr (.inl xi_2))), (oR, .inr (14, fr)), (am_lasts, .inl (cI, 44, .inl (fun _ => 0))), (am_cleaned, .inl (cI, 264, .inl (fun _ => 0)))] := hD
                    have hl : lv_has ls 6 [(5, .int (nI 40)), (4, .int 0), (3, .int 1), (0, .ref oM), (1, .int kd), (2, .int nn)] := hl
                    refine lv_iload hx hb d_Mo_end_193 (lv_at hl 0 rfl) ?_
                    refine lv_bipush (v := 40) hx hb d_Mo_end_195 (by decide) ?_
                    refine lv_icmp_ge (tgt := 222) hx hb d_Mo_end_197 (by decide) (fun _ => ?_) (fun h => absurd (show (40 : Int32) ≤ nI 40 from nI_le (Nat.le_refl _) (by decide)) h)
                    refine lv_iload hx hb d_Mo_end_222 (lv_at hl 1 rfl) ?_
                    refine lv_if_ge (tgt := 234) hx hb d_Mo_end_224 (by decide) (fun _ => ?_) (fun h => absurd (by decide) h)
                    refine lv_iload hx hb d_Mo_end_234 (lv_at hl 1 rfl) ?_
                    exact W.iret (v := 0) hx hb hr (fun t ht hW => ⟨⟨_, (), rfl, (by unfold fn_Mo_end; rw [if_neg h1, if_neg h6, if_neg h10, if_neg h17, if_neg h25, if_neg h81, if_neg h149, if_pos h173]), trivial⟩, hS.F ht⟩) hS.2.2 d_Mo_end_236
              · refine lv_aload_n hx hb d_Mo_end_152 rfl (lv_at hl 2 rfl) ?_
                refine va_get (D := (dC, dI)) (ci := 12) (v := .ref oR) (C := R_Mo) (T := F_Mo) (N := 87) hx hb hts (fun w h => List.mem_cons_of_mem _ (in_Mo w h)) hown hK.1 hP 0 rfl rfl 3 (by decide) (hts _ (List.mem_cons_of_mem _ mw_1797)) (fun _ h9 => h9) g71_3 d_Mo_end_153 ?_
                have hPc := hP.sub (ws' := [(oR, .inr (14, fr))]) [4] rfl
                have hDc := hD.sub (ws' := [(oR, .inr (14, fr))]) [4] (by decide) rfl
                have hFc := va_free (wc := [(oR, .inr (14, fr))]) hD hS hA [4] rfl
                refine va_calli (va_runV (C := R_Mr) (As := []) (rest := []) ⟨hx, hb, hml, hown, hts⟩ (c_Mr_read l dC dI cI cB cZ cJ oR fr hr_size hr_words hr_next hr_nodes hr_half hr_made hr_rows H.size) (cwV 0 hts (tb_V mw_2115 mw_2116 mw_2117 mw_20 mw_2118) rfl rfl rfl ⟨rfl, by decide +kernel, by decide +kernel, by decide +kernel⟩ ⟨(Nat.le_of_ble_eq_true rfl), (Nat.le_of_ble_eq_true rfl)⟩) ⟨pw_blind, va_recv (q := (R_Mr, F_Mr, 25)) hK.1 hP (ci := 14) (q0 := 4) rfl rfl, pw_pre hPc hK hDc⟩ rfl rfl hl.1 rfl (lv_room (Nat.le_of_ble_eq_true rfl)) d_Mo_end_156 ⟨(Nat.le_of_ble_eq_true rfl), (Nat.le_of_ble_eq_true rfl)⟩) hS (fun q _ h => hFc q h) hFc (fun r u t H locs ht hvm hw hB hz1 hk1 hS => ?_)
                obtain ⟨hP, hD⟩ := va_join (wr := [(oM, .inr (12, (fm.set 1 (.int 0)))), (oT, .inr (13, ft)), (am_senseWhat, .inl (cI, 40, .inl ((fun _ => (-1))))), (am_values, .inl (cJ, 40, .inr (.inl (fun _ => 0)))), (am_lasts, .inl (cI, 44, .inl (fun _ => 0))), (am_cleaned, .inl (cI, 264, .inl (fun _ => 0)))]) (w1 := []) hP hD [4] [0, 1, 2, 3, 5, 6] rfl rfl (by decide) (by decide) hk1 hFc wn_P wn_D
                have hP : va_P (dC, dI) classes [(oM, .inr (12, (fm.set 1 (.int 0)))), (oT, .inr (13, ft)), (am_senseWhat, .inl (cI, 40, .inl ((fun _ => (-1))))), (am_values, .inl (cJ, 40, .inr (.inl (fun _ => 0)))), (am_lasts, .inl (cI, 44, .inl (fun _ => 0))), (am_cleaned, .inl (cI, 264, .inl (fun _ => 0)))] H := hP
                have hD : va_D A [(oM, .inr (12, (fm.set 1 (.int 0)))), (oT, .inr (13, ft)), (am_senseWhat, .inl (cI, 40, .inl ((fun _ => (-1))))), (am_values, .inl (cJ, 40, .inr (.inl (fun _ => 0)))), (am_lasts, .inl (cI, 44, .inl (fun _ => 0))), (am_cleaned, .inl (cI, 264, .inl (fun _ => 0)))] := hD
                obtain rfl : r = 0 := hw
                refine lv_goto (tgt := 169) hx hb d_Mo_end_159 (by decide) ?_
                refine lv_istore hx hb d_Mo_end_169 hl (by decide) rfl (fun ls hl => ?_)
                have hl : lv_has ls 6 [(4, .int 0), (3, .int 1), (0, .ref oM), (1, .int kd), (2, .int nn)] := hl
                refine lv_iload_n hx hb d_Mo_end_171 rfl (lv_at hl 3 rfl) ?_
                refine lv_iconst (v := 2) hx hb d_Mo_end_172 (by decide) ?_
                refine lv_icmp_ne (tgt := 222) hx hb d_Mo_end_173 (by decide) (fun h173 => ?_) (fun h173 => ?_)
                · refine lv_iload hx hb d_Mo_end_222 (lv_at hl 0 rfl) ?_
                  refine lv_if_ge (tgt := 234) hx hb d_Mo_end_224 (by decide) (fun _ => ?_) (fun h => absurd (by decide) h)
                  refine lv_iload hx hb d_Mo_end_234 (lv_at hl 0 rfl) ?_
                  exact W.iret (v := 0) hx hb hr (fun t ht hW => ⟨⟨_, (), rfl, (by unfold fn_Mo_end; rw [if_neg h1, if_neg h6, if_neg h10, if_neg h17, if_neg h25, if_neg h81, if_pos h149, if_neg h173]), trivial⟩, hS.F ht⟩) hS.2.2 d_Mo_end_236
                · refine lv_iload hx hb d_Mo_end_176 (lv_at hl 0 rfl) ?_
                  refine lv_if_lt (tgt := 222) hx hb d_Mo_end_178 (by decide) (fun h => absurd h (by decide)) (fun _ => ?_)
                  refine lv_aload_n hx hb d_Mo_end_181 rfl (lv_at hl 2 rfl) ?_
                  refine lv_iconst (v := 4) hx hb d_Mo_end_182 (by decide) ?_
                  refine va_put (D := (dC, dI)) (ci := 12) (v := .int 4) (ty := .int) (C := R_Mo) (T := F_Mo) (N := 87) hx hb hts (fun w h => List.mem_cons_of_mem _ (in_Mo w h)) t_Mo t_Mo_ok n_Mo hown hK.1 hP hD hS 0 rfl rfl 59 (by decide) (hts _ (List.mem_cons_of_mem _ mw_1853)) (fun _ h9 => h9) rfl (by decide +kernel) rfl rfl (st_lt g71_59) d_Mo_end_183 (fun H locs hP hD hS => ?_)
                  have g183_17 : fx ((fm.set 1 (.int 0)).set 59 (.int 4)) 17 (.ref am_cleaned) := (st_ne g71_17 (by decide))
                  have g183_3 : fx ((fm.set 1 (.int 0)).set 59 (.int 4)) 3 (.ref oR) := (st_ne g71_3 (by decide))
                  have g183_16 : fx ((fm.set 1 (.int 0)).set 59 (.int 4)) 16 (.ref am_lasts) := (st_ne g71_16 (by decide))
                  have g183_22 : fx ((fm.set 1 (.int 0)).set 59 (.int 4)) 22 (.int 0) := (st_ne g71_22 (by decide))
                  have g183_86 : fx ((fm.set 1 (.int 0)).set 59 (.int 4)) 86 (.int 0) := (st_ne g71_86 (by decide))
                  have g183_85 : fx ((fm.set 1 (.int 0)).set 59 (.int 4)) 85 (.int 0) := (st_ne g71_85 (by decide))
                  have g183_11 : fx ((fm.set 1 (.int 0)).set 59 (.int 4)) 11 (.int 0) := (st_ne g71_11 (by decide))
                  have g183_21 : fx ((fm.set 1 (.int 0)).set 59 (.int 4)) 21 (.int 0) := (st_ne g71_21 (by decide))
                  have g183_2 : fx ((fm.set 1 (.int 0)).set 59 (.int 4)) 2 (.ref oT) := (st_ne g71_2 (by decide))
                  have g183_53 : fx ((fm.set 1 (.int 0)).set 59 (.int 4)) 53 (.ref am_senseWhat) := (st_ne g71_53 (by decide))
                  have g183_59 : fx ((fm.set 1 (.int 0)).set 59 (.int 4)) 59 (.int 4) := (st_eq g71_59)
                  have g183_1 : fx ((fm.set 1 (.int 0)).set 59 (.int 4)) 1 (.int 0) := (st_ne g71_1 (by decide))
                  have g183_4 : fx ((fm.set 1 (.int 0)).set 59 (.int 4)) 4 (.int 0) := (st_ne g71_4 (by decide))
                  have g183_58 : fx ((fm.set 1 (.int 0)).set 59 (.int 4)) 58 (.ref am_values) := (st_ne g71_58 (by decide))
                  have g183_26 : fx ((fm.set 1 (.int 0)).set 59 (.int 4)) 26 (.int 0) := (st_ne g71_26 (by decide))
                  have hP : va_P (dC, dI) classes [(oM, .inr (12, ((fm.set 1 (.int 0)).set 59 (.int 4)))), (oT, .inr (13, ft)), (am_senseWhat, .inl (cI, 40, .inl ((fun _ => (-1))))), (am_values, .inl (cJ, 40, .inr (.inl (fun _ => 0)))), (am_lasts, .inl (cI, 44, .inl (fun _ => 0))), (am_cleaned, .inl (cI, 264, .inl (fun _ => 0)))] H := hP
                  have hD : va_D A [(oM, .inr (12, ((fm.set 1 (.int 0)).set 59 (.int 4)))), (oT, .inr (13, ft)), (am_senseWhat, .inl (cI, 40, .inl ((fun _ => (-1))))), (am_values, .inl (cJ, 40, .inr (.inl (fun _ => 0)))), (am_lasts, .inl (cI, 44, .inl (fun _ => 0))), (am_cleaned, .inl (cI, 264, .inl (fun _ => 0)))] := hD
                  refine lv_aload_n hx hb d_Mo_end_186 rfl (lv_at hl 2 rfl) ?_
                  have hPc := hP.sub (ws' := [(oM, .inr (12, ((fm.set 1 (.int 0)).set 59 (.int 4))))]) [0] rfl
                  have hDc := hD.sub (ws' := [(oM, .inr (12, ((fm.set 1 (.int 0)).set 59 (.int 4))))]) [0] (by decide) rfl
                  have hFc := pu_free hS hA
                  refine va_callv (va_runV (C := R_Mo) (As := []) (rest := []) ⟨hx, hb, hml, hown, hts⟩ (c_Mo_closeAll l dC dI cI cB cZ cJ oM (((fm.set 1 (.int 0)).set 59 (.int 4))) g183_26 H.size) (cwV 0 hts (tb_V mw_2335 mw_2337 sl_139 mw_18 mw_2338) rfl rfl rfl ⟨rfl, by decide +kernel, by decide +kernel, by decide +kernel⟩ ⟨(Nat.le_of_ble_eq_true rfl), (Nat.le_of_ble_eq_true rfl)⟩) ⟨pw_blind, va_recv (q := (R_Mo, F_Mo, 87)) hK.1 hP (ci := 12) (q0 := 0) rfl rfl, pw_pre hPc hK hDc⟩ rfl rfl hl.1 rfl (lv_room (Nat.le_of_ble_eq_true rfl)) d_Mo_end_187 ⟨(Nat.le_of_ble_eq_true rfl), (Nat.le_of_ble_eq_true rfl)⟩) hS (fun q _ h => hFc q h) hFc (fun u t H locs ht hvm hw hB hz1 hk1 hS => ?_)
                  have hP := pu_kept hP hk1
                  refine lv_iconst (v := 0) hx hb d_Mo_end_190 (by decide) ?_
                  refine lv_istore hx hb d_Mo_end_191 hl (by decide) rfl (fun ls hl => ?_)
                  have hl : lv_has ls 6 [(5, .int 0), (4, .int 0), (3, .int 1), (0, .ref oM), (1, .int kd), (2, .int nn)] := hl
                  have hl : lv_has ls 6 [(5, .int (nI 0)), (4, .int 0), (3, .int 1), (0, .ref oM), (1, .int kd), (2, .int nn)] := lv_sub hl [0, 1, 2, 3, 4, 5] rfl
                  refine lp_ind (σ := (Nat → Int32) × (Nat → Int64)) (fun i x H locs ls => va_P (dC, dI) classes [(oM, .inr (12, ((fm.set 1 (.int 0)).set 59 (.int 4)))), (oT, .inr (13, ft)), (am_senseWhat, .inl (cI, 40, .inl x.1)), (am_values, .inl (cJ, 40, .inr (.inl x.2))), (am_lasts, .inl (cI, 44, .inl (fun _ => 0))), (am_cleaned, .inl (cI, 264, .inl (fun _ => 0)))] H ∧ va_D A [(oM, .inr (12, ((fm.set 1 (.int 0)).set 59 (.int 4)))), (oT, .inr (13, ft)), (am_senseWhat, .inl (cI, 40, .inl x.1)), (am_values, .inl (cJ, 40, .inr (.inl x.2))), (am_lasts, .inl (cI, 44, .inl (fun _ => 0))), (am_cleaned, .inl (cI, 264, .inl (fun _ => 0)))] ∧ va_S A s.heap H locs ∧ lv_has ls 6 [(5, .int (nI i)), (4, .int 0), (3, .int 1), (0, .ref oM), (1, .int kd), (2, .int nn)]) 193 40 ?_ ?_ 0 ((fun _ => (-1)), (fun _ => 0)) _ _ _ (Nat.zero_le _) ⟨hP, hD, hS, hl⟩
                  · intro i x H locs ls hi hI hki
                    obtain ⟨xi_2, xi_3⟩ := x
                    obtain ⟨hP, hD, hS, hl⟩ := hI
                    have hP : va_P (dC, dI) classes [(oM, .inr (12, ((fm.set 1 (.int 0)).set 59 (.int 4)))), (oT, .inr (13, ft)), (am_senseWhat, .inl (cI, 40, .inl xi_2)), (am_values, .inl (cJ, 40, .inr (.inl xi_3))), (am_lasts, .inl (cI, 44, .inl (fun _ => 0))), (am_cleaned, .inl (cI, 264, .inl (fun _ => 0)))] H := hP
                    have hD : va_D A [(oM, .inr (12, ((fm.set 1 (.int 0)).set 59 (.int 4)))), (oT, .inr (13, ft)), (am_senseWhat, .inl (cI, 40, .inl xi_2)), (am_values, .inl (cJ, 40, .inr (.inl xi_3))), (am_lasts, .inl (cI, 44, .inl (fun _ => 0))), (am_cleaned, .inl (cI, 264, .inl (fun _ => 0)))] := hD
                    have hl : lv_has ls 6 [(5, .int (nI i)), (4, .int 0), (3, .int 1), (0, .ref oM), (1, .int kd), (2, .int nn)] := hl
                    refine lv_iload hx hb d_Mo_end_193 (lv_at hl 0 rfl) ?_
                    refine lv_bipush (v := 40) hx hb d_Mo_end_195 (by decide) ?_
                    refine lv_icmp_ge (tgt := 222) hx hb d_Mo_end_197 (by decide) (fun h => absurd h (show ¬ (40 : Int32) ≤ nI i from nI_ge hi (by decide))) (fun _ => ?_)
                    refine lv_aload_n hx hb d_Mo_end_200 rfl (lv_at hl 3 rfl) ?_
                    refine va_get (D := (dC, dI)) (ci := 12) (v := .ref am_senseWhat) (C := R_Mo) (T := F_Mo) (N := 87) hx hb hts (fun w h => List.mem_cons_of_mem _ (in_Mo w h)) hown hK.1 hP 0 rfl rfl 53 (by decide) (hts _ (List.mem_cons_of_mem _ mw_1847)) (fun _ h9 => h9) g183_53 d_Mo_end_201 ?_
                    refine lv_iload hx hb d_Mo_end_204 (lv_at hl 0 rfl) ?_
                    refine lv_iconst (v := (-1)) hx hb d_Mo_end_206 (by decide) ?_
                    refine va_iast hx hb hK.1 hP hD hS 2 0 rfl rfl (vp_in_nI hi (by decide)) d_Mo_end_207 (fun H locs hP hD hS => ?_)
                    have hP : va_P (dC, dI) classes [(oM, .inr (12, ((fm.set 1 (.int 0)).set 59 (.int 4)))), (oT, .inr (13, ft)), (am_senseWhat, .inl (cI, 40, .inl ((upd xi_2 ((nI i) : Int32).toNatClampNeg (-1))))), (am_values, .inl (cJ, 40, .inr (.inl xi_3))), (am_lasts, .inl (cI, 44, .inl (fun _ => 0))), (am_cleaned, .inl (cI, 264, .inl (fun _ => 0)))] H := hP
                    have hD : va_D A [(oM, .inr (12, ((fm.set 1 (.int 0)).set 59 (.int 4)))), (oT, .inr (13, ft)), (am_senseWhat, .inl (cI, 40, .inl ((upd xi_2 ((nI i) : Int32).toNatClampNeg (-1))))), (am_values, .inl (cJ, 40, .inr (.inl xi_3))), (am_lasts, .inl (cI, 44, .inl (fun _ => 0))), (am_cleaned, .inl (cI, 264, .inl (fun _ => 0)))] := hD
                    generalize (upd xi_2 ((nI i) : Int32).toNatClampNeg (-1)) = f207_11 at hP hD
                    refine lv_aload_n hx hb d_Mo_end_208 rfl (lv_at hl 3 rfl) ?_
                    refine va_get (D := (dC, dI)) (ci := 12) (v := .ref am_values) (C := R_Mo) (T := F_Mo) (N := 87) hx hb hts (fun w h => List.mem_cons_of_mem _ (in_Mo w h)) hown hK.1 hP 0 rfl rfl 58 (by decide) (hts _ (List.mem_cons_of_mem _ mw_1852)) (fun _ h9 => h9) g183_58 d_Mo_end_209 ?_
                    refine lv_iload hx hb d_Mo_end_212 (lv_at hl 0 rfl) ?_
                    refine lv_lconst (v := 0) hx hb d_Mo_end_214 (by decide) ?_
                    refine va_last hx hb hK.1 hP hD hS 3 3 rfl rfl (vp_in_nI hi (by decide)) d_Mo_end_215 (fun H locs hP hD hS => ?_)
                    have hP : va_P (dC, dI) classes [(oM, .inr (12, ((fm.set 1 (.int 0)).set 59 (.int 4)))), (oT, .inr (13, ft)), (am_senseWhat, .inl (cI, 40, .inl f207_11)), (am_values, .inl (cJ, 40, .inr (.inl ((vp_updL xi_3 ((nI i) : Int32).toNatClampNeg 0))))), (am_lasts, .inl (cI, 44, .inl (fun _ => 0))), (am_cleaned, .inl (cI, 264, .inl (fun _ => 0)))] H := hP
                    have hD : va_D A [(oM, .inr (12, ((fm.set 1 (.int 0)).set 59 (.int 4)))), (oT, .inr (13, ft)), (am_senseWhat, .inl (cI, 40, .inl f207_11)), (am_values, .inl (cJ, 40, .inr (.inl ((vp_updL xi_3 ((nI i) : Int32).toNatClampNeg 0))))), (am_lasts, .inl (cI, 44, .inl (fun _ => 0))), (am_cleaned, .inl (cI, 264, .inl (fun _ => 0)))] := hD
                    generalize (vp_updL xi_3 ((nI i) : Int32).toNatClampNeg 0) = f215_12 at hP hD
                    refine lv_iinc (k := 0) (v := (nI (i + 1))) hx hb d_Mo_end_216 hl rfl (by first | rfl | decide | exact nI_1 i | exact pv_1 j hj) (by decide) rfl (fun ls hl => ?_)
                    have hl : lv_has ls 6 [(5, .int (nI (i + 1))), (4, .int 0), (3, .int 1), (0, .ref oM), (1, .int kd), (2, .int nn)] := hl
                    refine lv_goto (tgt := 193) hx hb d_Mo_end_219 (by decide) ?_
                    have hl : lv_has ls 6 [(5, .int (nI (i + 1))), (4, .int 0), (3, .int 1), (0, .ref oM), (1, .int kd), (2, .int nn)] := lv_sub hl [0, 1, 2, 3, 4, 5] rfl
                    exact hki (f207_11, f215_12) H locs ls ⟨hP, hD, hS, hl⟩
                  · intro x H locs ls hI
                    obtain ⟨xi_2, xi_3⟩ := x
                    obtain ⟨hP, hD, hS, hl⟩ := hI
                    have hP : va_P (dC, dI) classes [(oM, .inr (12, ((fm.set 1 (.int 0)).set 59 (.int 4)))), (oT, .inr (13, ft)), (am_senseWhat, .inl (cI, 40, .inl xi_2)), (am_values, .inl (cJ, 40, .inr (.inl xi_3))), (am_lasts, .inl (cI, 44, .inl (fun _ => 0))), (am_cleaned, .inl (cI, 264, .inl (fun _ => 0)))] H := hP
                    have hD : va_D A [(oM, .inr (12, ((fm.set 1 (.int 0)).set 59 (.int 4)))), (oT, .inr (13, ft)), (am_senseWhat, .inl (cI, 40, .inl xi_2)), (am_values, .inl (cJ, 40, .inr (.inl xi_3))), (am_lasts, .inl (cI, 44, .inl (fun _ => 0))), (am_cleaned, .inl (cI, 264, .inl (fun _ => 0)))] := hD
                    have hl : lv_has ls 6 [(5, .int (nI 40)), (4, .int 0), (3, .int 1), (0, .ref oM), (1, .int kd), (2, .int nn)] := hl
                    refine lv_iload hx hb d_Mo_end_193 (lv_at hl 0 rfl) ?_
                    refine lv_bipush (v := 40) hx hb d_Mo_end_195 (by decide) ?_
                    refine lv_icmp_ge (tgt := 222) hx hb d_Mo_end_197 (by decide) (fun _ => ?_) (fun h => absurd (show (40 : Int32) ≤ nI 40 from nI_le (Nat.le_refl _) (by decide)) h)
                    refine lv_iload hx hb d_Mo_end_222 (lv_at hl 1 rfl) ?_
                    refine lv_if_ge (tgt := 234) hx hb d_Mo_end_224 (by decide) (fun _ => ?_) (fun h => absurd (by decide) h)
                    refine lv_iload hx hb d_Mo_end_234 (lv_at hl 1 rfl) ?_
                    exact W.iret (v := 0) hx hb hr (fun t ht hW => ⟨⟨_, (), rfl, (by unfold fn_Mo_end; rw [if_neg h1, if_neg h6, if_neg h10, if_neg h17, if_neg h25, if_neg h81, if_pos h149, if_pos h173]), trivial⟩, hS.F ht⟩) hS.2.2 d_Mo_end_236
            · refine lv_aload_n hx hb d_Mo_end_84 rfl (lv_at hl 2 rfl) ?_
              refine lv_iload_n hx hb d_Mo_end_85 rfl (lv_at hl 4 rfl) ?_
              refine va_put (D := (dC, dI)) (ci := 12) (v := .int nn) (ty := .int) (C := R_Mo) (T := F_Mo) (N := 87) hx hb hts (fun w h => List.mem_cons_of_mem _ (in_Mo w h)) t_Mo t_Mo_ok n_Mo hown hK.1 hP hD hS 0 rfl rfl 22 (by decide) (hts _ (List.mem_cons_of_mem _ mw_1816)) (fun _ h9 => h9) rfl (by decide +kernel) rfl rfl (st_lt g71_22) d_Mo_end_86 (fun H locs hP hD hS => ?_)
              have g86_17 : fx ((fm.set 1 (.int 0)).set 22 (.int nn)) 17 (.ref am_cleaned) := (st_ne g71_17 (by decide))
              have g86_3 : fx ((fm.set 1 (.int 0)).set 22 (.int nn)) 3 (.ref oR) := (st_ne g71_3 (by decide))
              have g86_16 : fx ((fm.set 1 (.int 0)).set 22 (.int nn)) 16 (.ref am_lasts) := (st_ne g71_16 (by decide))
              have g86_22 : fx ((fm.set 1 (.int 0)).set 22 (.int nn)) 22 (.int nn) := (st_eq g71_22)
              have g86_86 : fx ((fm.set 1 (.int 0)).set 22 (.int nn)) 86 (.int 0) := (st_ne g71_86 (by decide))
              have g86_85 : fx ((fm.set 1 (.int 0)).set 22 (.int nn)) 85 (.int 0) := (st_ne g71_85 (by decide))
              have g86_11 : fx ((fm.set 1 (.int 0)).set 22 (.int nn)) 11 (.int 0) := (st_ne g71_11 (by decide))
              have g86_21 : fx ((fm.set 1 (.int 0)).set 22 (.int nn)) 21 (.int 0) := (st_ne g71_21 (by decide))
              have g86_2 : fx ((fm.set 1 (.int 0)).set 22 (.int nn)) 2 (.ref oT) := (st_ne g71_2 (by decide))
              have g86_53 : fx ((fm.set 1 (.int 0)).set 22 (.int nn)) 53 (.ref am_senseWhat) := (st_ne g71_53 (by decide))
              have g86_59 : fx ((fm.set 1 (.int 0)).set 22 (.int nn)) 59 (.int 4) := (st_ne g71_59 (by decide))
              have g86_1 : fx ((fm.set 1 (.int 0)).set 22 (.int nn)) 1 (.int 0) := (st_ne g71_1 (by decide))
              have g86_4 : fx ((fm.set 1 (.int 0)).set 22 (.int nn)) 4 (.int 0) := (st_ne g71_4 (by decide))
              have g86_58 : fx ((fm.set 1 (.int 0)).set 22 (.int nn)) 58 (.ref am_values) := (st_ne g71_58 (by decide))
              have g86_26 : fx ((fm.set 1 (.int 0)).set 22 (.int nn)) 26 (.int 0) := (st_ne g71_26 (by decide))
              have hP : va_P (dC, dI) classes [(oM, .inr (12, ((fm.set 1 (.int 0)).set 22 (.int nn)))), (oT, .inr (13, ft)), (am_senseWhat, .inl (cI, 40, .inl ((fun _ => (-1))))), (am_values, .inl (cJ, 40, .inr (.inl (fun _ => 0)))), (oR, .inr (14, fr)), (am_lasts, .inl (cI, 44, .inl (fun _ => 0))), (am_cleaned, .inl (cI, 264, .inl (fun _ => 0)))] H := hP
              have hD : va_D A [(oM, .inr (12, ((fm.set 1 (.int 0)).set 22 (.int nn)))), (oT, .inr (13, ft)), (am_senseWhat, .inl (cI, 40, .inl ((fun _ => (-1))))), (am_values, .inl (cJ, 40, .inr (.inl (fun _ => 0)))), (oR, .inr (14, fr)), (am_lasts, .inl (cI, 44, .inl (fun _ => 0))), (am_cleaned, .inl (cI, 264, .inl (fun _ => 0)))] := hD
              refine lv_aload_n hx hb d_Mo_end_89 rfl (lv_at hl 2 rfl) ?_
              have hPc := hP.sub (ws' := [(oM, .inr (12, ((fm.set 1 (.int 0)).set 22 (.int nn)))), (am_lasts, .inl (cI, 44, .inl (fun _ => 0))), (am_cleaned, .inl (cI, 264, .inl (fun _ => 0)))]) [0, 5, 6] rfl
              have hDc := hD.sub (ws' := [(oM, .inr (12, ((fm.set 1 (.int 0)).set 22 (.int nn)))), (am_lasts, .inl (cI, 44, .inl (fun _ => 0))), (am_cleaned, .inl (cI, 264, .inl (fun _ => 0)))]) [0, 5, 6] (by decide) rfl
              have hFc := va_free (wc := [(oM, .inr (12, ((fm.set 1 (.int 0)).set 22 (.int nn)))), (am_lasts, .inl (cI, 44, .inl (fun _ => 0))), (am_cleaned, .inl (cI, 264, .inl (fun _ => 0)))]) hD hS hA [0, 5, 6] rfl
              refine va_calli (va_runV (C := R_Mo) (As := []) (rest := []) ⟨hx, hb, hml, hown, hts⟩ (c_Mo_readPlant l dC dI cI cB cZ cJ nn h25 oM am_lasts am_cleaned (((fm.set 1 (.int 0)).set 22 (.int nn))) g86_4 g86_11 g86_16 g86_17 g86_21 g86_22 g86_26 g86_59 g86_85 g86_86 H.size) (cwV 0 hts (tb_V mw_2064 mw_2066 sl_89 mw_18 mw_2067) rfl rfl rfl ⟨rfl, by decide +kernel, by decide +kernel, by decide +kernel⟩ ⟨(Nat.le_of_ble_eq_true rfl), (Nat.le_of_ble_eq_true rfl)⟩) ⟨pw_blind, va_recv (q := (R_Mo, F_Mo, 87)) hK.1 hP (ci := 12) (q0 := 0) rfl rfl, pw_pre hPc hK hDc⟩ rfl rfl hl.1 rfl (lv_room (Nat.le_of_ble_eq_true rfl)) d_Mo_end_90 ⟨(Nat.le_of_ble_eq_true rfl), (Nat.le_of_ble_eq_true rfl)⟩) hS (fun q _ h => hFc q h) hFc (fun r u t H locs ht hvm hw hB hz1 hk1 hS => ?_)
              obtain ⟨hP, hD⟩ := va_join (wr := [(oT, .inr (13, ft)), (am_senseWhat, .inl (cI, 40, .inl ((fun _ => (-1))))), (am_values, .inl (cJ, 40, .inr (.inl (fun _ => 0)))), (oR, .inr (14, fr))]) (w1 := []) hP hD [0, 5, 6] [1, 2, 3, 4] rfl rfl (by decide) (by decide) hk1 hFc wn_P wn_D
              have hP : va_P (dC, dI) classes [(oT, .inr (13, ft)), (am_senseWhat, .inl (cI, 40, .inl ((fun _ => (-1))))), (am_values, .inl (cJ, 40, .inr (.inl (fun _ => 0)))), (oR, .inr (14, fr))] H := hP
              have hD : va_D A [(oT, .inr (13, ft)), (am_senseWhat, .inl (cI, 40, .inl ((fun _ => (-1))))), (am_values, .inl (cJ, 40, .inr (.inl (fun _ => 0)))), (oR, .inr (14, fr))] := hD
              obtain rfl : r = 0 := hw
              exact W.iret (v := 0) hx hb hr (fun t ht hW => ⟨⟨_, (), rfl, (by unfold fn_Mo_end; rw [if_neg h1, if_neg h6, if_neg h10, if_neg h17, if_neg h25, if_pos h81]), trivial⟩, hS.F ht⟩) hS.2.2 d_Mo_end_93
