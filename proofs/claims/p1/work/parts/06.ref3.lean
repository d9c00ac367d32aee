abbrev b_Mo_join : ByteArray := prog_14_method_29_code
def y_Mo_join : MethodName := ⟨R_Mo, "join", "()V"⟩
abbrev w_Mo_join : List Cond := .code y_Mo_join b_Mo_join 6 none :: lw_gd
abbrev b_Mo_look : ByteArray := prog_14_method_34_code
def y_Mo_look : MethodName := ⟨R_Mo, "look", "()V"⟩
abbrev w_Mo_look : List Cond := .code y_Mo_look b_Mo_look 3 none :: lw_gd
abbrev b_Mo_flood : ByteArray := prog_14_method_30_code
def y_Mo_flood : MethodName := ⟨R_Mo, "flood", "(I)J"⟩
abbrev w_Mo_flood : List Cond := .code y_Mo_flood b_Mo_flood 8 (some .long) :: lw_gd
abbrev b_Mo_isCalm : ByteArray := prog_14_method_32_code
def y_Mo_isCalm : MethodName := ⟨R_Mo, "isCalm", "(I)Z"⟩
abbrev w_Mo_isCalm : List Cond := .code y_Mo_isCalm b_Mo_isCalm 5 (some .boolean) :: lw_gd
abbrev b_Mo_isSafe : ByteArray := prog_14_method_33_code
def y_Mo_isSafe : MethodName := ⟨R_Mo, "isSafe", "()Z"⟩
abbrev w_Mo_isSafe : List Cond := .code y_Mo_isSafe b_Mo_isSafe 5 (some .boolean) :: lw_gd
abbrev b_Mo_danger : ByteArray := prog_14_method_36_code
def y_Mo_danger : MethodName := ⟨R_Mo, "danger", "(I)I"⟩
abbrev w_Mo_danger : List Cond := .code y_Mo_danger b_Mo_danger 2 (some .int) :: lw_gd
abbrev b_Mo_closeAll : ByteArray := prog_14_method_44_code
def y_Mo_closeAll : MethodName := ⟨R_Mo, "closeAll", "()V"⟩
abbrev w_Mo_closeAll : List Cond := .code y_Mo_closeAll b_Mo_closeAll 1 none :: lw_gd
abbrev b_Mo_senseAll : ByteArray := prog_14_method_64_code
def y_Mo_senseAll : MethodName := ⟨R_Mo, "senseAll", "()V"⟩
abbrev w_Mo_senseAll : List Cond := .code y_Mo_senseAll b_Mo_senseAll 5 none :: lw_gd
abbrev b_Mr_tick : ByteArray := prog_15_method_21_code
def y_Mr_tick : MethodName := ⟨R_Mr, "tick", "(I)Z"⟩
abbrev w_Mr_tick : List Cond := .code y_Mr_tick b_Mr_tick 4 (some .boolean) :: lw_gd
theorem mw_1838 : (.fieldLink "BreweryHouseModel" 129 "BreweryHouseModel" "floods" "[J" : Cond) ∈ lw_gd := tb_mem (i := 1838) (by decide +kernel) (by decide +kernel)
theorem mw_2369 : (.methodLink "BreweryHouseModel" 366 y_Mo_look : Cond) ∈ lw_gd := tb_mem (i := 2369) (by decide +kernel) (by decide +kernel)
theorem mw_2371 : (.instanceMethod y_Mo_look : Cond) ∈ lw_gd := tb_mem (i := 2371) (by decide +kernel) (by decide +kernel)
theorem mw_2372 : (.code y_Mo_look b_Mo_look 3 none : Cond) ∈ lw_gd := tb_mem (i := 2372) (by decide +kernel) (by decide +kernel)
theorem mw_2381 : (.methodLink "BreweryHouseModel" 369 y_Mo_isSafe : Cond) ∈ lw_gd := tb_mem (i := 2381) (by decide +kernel) (by decide +kernel)
theorem mw_2383 : (.instanceMethod y_Mo_isSafe : Cond) ∈ lw_gd := tb_mem (i := 2383) (by decide +kernel) (by decide +kernel)
theorem mw_2384 : (.code y_Mo_isSafe b_Mo_isSafe 5 (some .boolean) : Cond) ∈ lw_gd := tb_mem (i := 2384) (by decide +kernel) (by decide +kernel)
theorem mw_2385 : (.methodLink "BreweryHouseModel" 359 y_Mo_isCalm : Cond) ∈ lw_gd := tb_mem (i := 2385) (by decide +kernel) (by decide +kernel)
theorem mw_2387 : (.instanceMethod y_Mo_isCalm : Cond) ∈ lw_gd := tb_mem (i := 2387) (by decide +kernel) (by decide +kernel)
theorem mw_2388 : (.code y_Mo_isCalm b_Mo_isCalm 5 (some .boolean) : Cond) ∈ lw_gd := tb_mem (i := 2388) (by decide +kernel) (by decide +kernel)
theorem mw_2389 : (.methodLink "BreweryHouseModel" 336 y_Mo_join : Cond) ∈ lw_gd := tb_mem (i := 2389) (by decide +kernel) (by decide +kernel)
theorem mw_2391 : (.instanceMethod y_Mo_join : Cond) ∈ lw_gd := tb_mem (i := 2391) (by decide +kernel) (by decide +kernel)
theorem mw_2392 : (.code y_Mo_join b_Mo_join 6 none : Cond) ∈ lw_gd := tb_mem (i := 2392) (by decide +kernel) (by decide +kernel)
theorem mw_2396 : (.methodLink "BreweryHouseModel" 339 y_Mo_flood : Cond) ∈ lw_gd := tb_mem (i := 2396) (by decide +kernel) (by decide +kernel)
theorem mw_2398 : (.instanceMethod y_Mo_flood : Cond) ∈ lw_gd := tb_mem (i := 2398) (by decide +kernel) (by decide +kernel)
theorem mw_2399 : (.code y_Mo_flood b_Mo_flood 8 (some .long) : Cond) ∈ lw_gd := tb_mem (i := 2399) (by decide +kernel) (by decide +kernel)
theorem mw_2617 : (.constant "BreweryHouseModel$Rows" 142 100000 : Cond) ∈ lw_gd := tb_mem (i := 2617) (by decide +kernel) (by decide +kernel)
theorem sl_145 : (.selects "BreweryHouseModel" y_Mo_look y_Mo_look : Cond) ∈ lw_gd := List.mem_filter.mpr ⟨List.mem_append_left _ (List.mem_of_getElem? (i := 145) (by decide +kernel)), by decide +kernel⟩
theorem sl_148 : (.selects "BreweryHouseModel" y_Mo_isSafe y_Mo_isSafe : Cond) ∈ lw_gd := List.mem_filter.mpr ⟨List.mem_append_left _ (List.mem_of_getElem? (i := 148) (by decide +kernel)), by decide +kernel⟩
theorem sl_149 : (.selects "BreweryHouseModel" y_Mo_isCalm y_Mo_isCalm : Cond) ∈ lw_gd := List.mem_filter.mpr ⟨List.mem_append_left _ (List.mem_of_getElem? (i := 149) (by decide +kernel)), by decide +kernel⟩
theorem sl_150 : (.selects "BreweryHouseModel" y_Mo_join y_Mo_join : Cond) ∈ lw_gd := List.mem_filter.mpr ⟨List.mem_append_left _ (List.mem_of_getElem? (i := 150) (by decide +kernel)), by decide +kernel⟩
theorem sl_151 : (.selects "BreweryHouseModel" y_Mo_flood y_Mo_flood : Cond) ∈ lw_gd := List.mem_filter.mpr ⟨List.mem_append_left _ (List.mem_of_getElem? (i := 151) (by decide +kernel)), by decide +kernel⟩
abbrev t_Mo_join_236 : List UInt8 := 177 :: []
abbrev t_Mo_join_233 : List UInt8 := 167 :: 255 :: 53 :: t_Mo_join_236
abbrev t_Mo_join_230 : List UInt8 := 132 :: 1 :: 1 :: t_Mo_join_233
abbrev t_Mo_join_227 : List UInt8 := 167 :: 255 :: 125 :: t_Mo_join_230
abbrev t_Mo_join_224 : List UInt8 := 132 :: 4 :: 1 :: t_Mo_join_227
abbrev t_Mo_join_223 : List UInt8 := 80 :: t_Mo_join_224
abbrev t_Mo_join_222 : List UInt8 := 129 :: t_Mo_join_223
abbrev t_Mo_join_221 : List UInt8 := 121 :: t_Mo_join_222
abbrev t_Mo_join_220 : List UInt8 := 96 :: t_Mo_join_221
abbrev t_Mo_join_219 : List UInt8 := 108 :: t_Mo_join_220
abbrev t_Mo_join_218 : List UInt8 := 5 :: t_Mo_join_219
abbrev t_Mo_join_216 : List UInt8 := 21 :: 4 :: t_Mo_join_218
abbrev t_Mo_join_213 : List UInt8 := 180 :: 1 :: 22 :: t_Mo_join_216
abbrev t_Mo_join_212 : List UInt8 := 42 :: t_Mo_join_213
abbrev t_Mo_join_211 : List UInt8 := 10 :: t_Mo_join_212
abbrev t_Mo_join_210 : List UInt8 := 47 :: t_Mo_join_211
abbrev t_Mo_join_209 : List UInt8 := 92 :: t_Mo_join_210
abbrev t_Mo_join_208 : List UInt8 := 29 :: t_Mo_join_209
abbrev t_Mo_join_205 : List UInt8 := 180 :: 0 :: 125 :: t_Mo_join_208
abbrev t_Mo_join_204 : List UInt8 := 42 :: t_Mo_join_205
abbrev t_Mo_join_201 : List UInt8 := 153 :: 0 :: 23 :: t_Mo_join_204
abbrev t_Mo_join_199 : List UInt8 := 21 :: 5 :: t_Mo_join_201
abbrev t_Mo_join_197 : List UInt8 := 54 :: 5 :: t_Mo_join_199
abbrev t_Mo_join_196 : List UInt8 := 3 :: t_Mo_join_197
abbrev t_Mo_join_193 : List UInt8 := 167 :: 0 :: 4 :: t_Mo_join_196
abbrev t_Mo_join_192 : List UInt8 := 4 :: t_Mo_join_193
abbrev t_Mo_join_189 : List UInt8 := 153 :: 0 :: 7 :: t_Mo_join_192
abbrev t_Mo_join_186 : List UInt8 := 184 :: 1 :: 76 :: t_Mo_join_189
abbrev t_Mo_join_185 : List UInt8 := 46 :: t_Mo_join_186
abbrev t_Mo_join_183 : List UInt8 := 21 :: 4 :: t_Mo_join_185
abbrev t_Mo_join_180 : List UInt8 := 180 :: 0 :: 52 :: t_Mo_join_183
abbrev t_Mo_join_179 : List UInt8 := 42 :: t_Mo_join_180
abbrev t_Mo_join_178 : List UInt8 := 46 :: t_Mo_join_179
abbrev t_Mo_join_177 : List UInt8 := 27 :: t_Mo_join_178
abbrev t_Mo_join_174 : List UInt8 := 180 :: 0 :: 52 :: t_Mo_join_177
abbrev t_Mo_join_173 : List UInt8 := 42 :: t_Mo_join_174
abbrev t_Mo_join_172 : List UInt8 := 46 :: t_Mo_join_173
abbrev t_Mo_join_171 : List UInt8 := 28 :: t_Mo_join_172
abbrev t_Mo_join_168 : List UInt8 := 180 :: 0 :: 40 :: t_Mo_join_171
abbrev t_Mo_join_167 : List UInt8 := 42 :: t_Mo_join_168
abbrev t_Mo_join_166 : List UInt8 := 100 :: t_Mo_join_167
abbrev t_Mo_join_165 : List UInt8 := 5 :: t_Mo_join_166
abbrev t_Mo_join_164 : List UInt8 := 46 :: t_Mo_join_165
abbrev t_Mo_join_163 : List UInt8 := 28 :: t_Mo_join_164
abbrev t_Mo_join_160 : List UInt8 := 180 :: 0 :: 27 :: t_Mo_join_163
abbrev t_Mo_join_159 : List UInt8 := 42 :: t_Mo_join_160
abbrev t_Mo_join_156 : List UInt8 := 167 :: 0 :: 36 :: t_Mo_join_159
abbrev t_Mo_join_153 : List UInt8 := 154 :: 0 :: 43 :: t_Mo_join_156
abbrev t_Mo_join_152 : List UInt8 := 46 :: t_Mo_join_153
abbrev t_Mo_join_151 : List UInt8 := 27 :: t_Mo_join_152
abbrev t_Mo_join_148 : List UInt8 := 180 :: 0 :: 52 :: t_Mo_join_151
abbrev t_Mo_join_147 : List UInt8 := 42 :: t_Mo_join_148
abbrev t_Mo_join_144 : List UInt8 := 160 :: 0 :: 15 :: t_Mo_join_147
abbrev t_Mo_join_143 : List UInt8 := 4 :: t_Mo_join_144
abbrev t_Mo_join_142 : List UInt8 := 46 :: t_Mo_join_143
abbrev t_Mo_join_141 : List UInt8 := 28 :: t_Mo_join_142
abbrev t_Mo_join_138 : List UInt8 := 180 :: 0 :: 27 :: t_Mo_join_141
abbrev t_Mo_join_137 : List UInt8 := 42 :: t_Mo_join_138
abbrev t_Mo_join_134 : List UInt8 := 159 :: 0 :: 62 :: t_Mo_join_137
abbrev t_Mo_join_133 : List UInt8 := 27 :: t_Mo_join_134
abbrev t_Mo_join_131 : List UInt8 := 21 :: 4 :: t_Mo_join_133
abbrev t_Mo_join_128 : List UInt8 := 160 :: 0 :: 68 :: t_Mo_join_131
abbrev t_Mo_join_127 : List UInt8 := 28 :: t_Mo_join_128
abbrev t_Mo_join_126 : List UInt8 := 46 :: t_Mo_join_127
abbrev t_Mo_join_124 : List UInt8 := 21 :: 4 :: t_Mo_join_126
abbrev t_Mo_join_121 : List UInt8 := 180 :: 0 :: 49 :: t_Mo_join_124
abbrev t_Mo_join_120 : List UInt8 := 42 :: t_Mo_join_121
abbrev t_Mo_join_117 : List UInt8 := 153 :: 0 :: 113 :: t_Mo_join_120
abbrev t_Mo_join_116 : List UInt8 := 46 :: t_Mo_join_117
abbrev t_Mo_join_115 : List UInt8 := 28 :: t_Mo_join_116
abbrev t_Mo_join_112 : List UInt8 := 180 :: 0 :: 27 :: t_Mo_join_115
abbrev t_Mo_join_111 : List UInt8 := 42 :: t_Mo_join_112
abbrev t_Mo_join_108 : List UInt8 := 155 :: 0 :: 122 :: t_Mo_join_111
abbrev t_Mo_join_107 : List UInt8 := 28 :: t_Mo_join_108
abbrev t_Mo_join_104 : List UInt8 := 162 :: 0 :: 126 :: t_Mo_join_107
abbrev t_Mo_join_103 : List UInt8 := 104 :: t_Mo_join_104
abbrev t_Mo_join_100 : List UInt8 := 180 :: 1 :: 25 :: t_Mo_join_103
abbrev t_Mo_join_99 : List UInt8 := 42 :: t_Mo_join_100
abbrev t_Mo_join_98 : List UInt8 := 5 :: t_Mo_join_99
abbrev t_Mo_join_96 : List UInt8 := 21 :: 4 :: t_Mo_join_98
abbrev t_Mo_join_94 : List UInt8 := 54 :: 4 :: t_Mo_join_96
abbrev t_Mo_join_93 : List UInt8 := 3 :: t_Mo_join_94
abbrev t_Mo_join_92 : List UInt8 := 80 :: t_Mo_join_93
abbrev t_Mo_join_91 : List UInt8 := 129 :: t_Mo_join_92
abbrev t_Mo_join_90 : List UInt8 := 121 :: t_Mo_join_91
abbrev t_Mo_join_89 : List UInt8 := 29 :: t_Mo_join_90
abbrev t_Mo_join_88 : List UInt8 := 10 :: t_Mo_join_89
abbrev t_Mo_join_87 : List UInt8 := 47 :: t_Mo_join_88
abbrev t_Mo_join_86 : List UInt8 := 92 :: t_Mo_join_87
abbrev t_Mo_join_85 : List UInt8 := 28 :: t_Mo_join_86
abbrev t_Mo_join_82 : List UInt8 := 180 :: 0 :: 125 :: t_Mo_join_85
abbrev t_Mo_join_81 : List UInt8 := 42 :: t_Mo_join_82
abbrev t_Mo_join_80 : List UInt8 := 80 :: t_Mo_join_81
abbrev t_Mo_join_79 : List UInt8 := 129 :: t_Mo_join_80
abbrev t_Mo_join_78 : List UInt8 := 121 :: t_Mo_join_79
abbrev t_Mo_join_77 : List UInt8 := 28 :: t_Mo_join_78
abbrev t_Mo_join_76 : List UInt8 := 10 :: t_Mo_join_77
abbrev t_Mo_join_75 : List UInt8 := 47 :: t_Mo_join_76
abbrev t_Mo_join_74 : List UInt8 := 92 :: t_Mo_join_75
abbrev t_Mo_join_73 : List UInt8 := 29 :: t_Mo_join_74
abbrev t_Mo_join_70 : List UInt8 := 180 :: 0 :: 125 :: t_Mo_join_73
abbrev t_Mo_join_69 : List UInt8 := 42 :: t_Mo_join_70
abbrev t_Mo_join_66 : List UInt8 := 154 :: 0 :: 27 :: t_Mo_join_69
abbrev t_Mo_join_65 : List UInt8 := 46 :: t_Mo_join_66
abbrev t_Mo_join_64 : List UInt8 := 28 :: t_Mo_join_65
abbrev t_Mo_join_61 : List UInt8 := 180 :: 0 :: 27 :: t_Mo_join_64
abbrev t_Mo_join_60 : List UInt8 := 42 :: t_Mo_join_61
abbrev t_Mo_join_57 : List UInt8 := 155 :: 0 :: 36 :: t_Mo_join_60
abbrev t_Mo_join_56 : List UInt8 := 28 :: t_Mo_join_57
abbrev t_Mo_join_55 : List UInt8 := 62 :: t_Mo_join_56
abbrev t_Mo_join_54 : List UInt8 := 96 :: t_Mo_join_55
abbrev t_Mo_join_53 : List UInt8 := 108 :: t_Mo_join_54
abbrev t_Mo_join_52 : List UInt8 := 5 :: t_Mo_join_53
abbrev t_Mo_join_51 : List UInt8 := 27 :: t_Mo_join_52
abbrev t_Mo_join_48 : List UInt8 := 180 :: 1 :: 22 :: t_Mo_join_51
abbrev t_Mo_join_47 : List UInt8 := 42 :: t_Mo_join_48
abbrev t_Mo_join_46 : List UInt8 := 61 :: t_Mo_join_47
abbrev t_Mo_join_45 : List UInt8 := 46 :: t_Mo_join_46
abbrev t_Mo_join_44 : List UInt8 := 27 :: t_Mo_join_45
abbrev t_Mo_join_41 : List UInt8 := 180 :: 0 :: 49 :: t_Mo_join_44
abbrev t_Mo_join_40 : List UInt8 := 42 :: t_Mo_join_41
abbrev t_Mo_join_37 : List UInt8 := 162 :: 0 :: 199 :: t_Mo_join_40
abbrev t_Mo_join_36 : List UInt8 := 104 :: t_Mo_join_37
abbrev t_Mo_join_33 : List UInt8 := 180 :: 1 :: 25 :: t_Mo_join_36
abbrev t_Mo_join_32 : List UInt8 := 42 :: t_Mo_join_33
abbrev t_Mo_join_31 : List UInt8 := 5 :: t_Mo_join_32
abbrev t_Mo_join_30 : List UInt8 := 27 :: t_Mo_join_31
abbrev t_Mo_join_29 : List UInt8 := 60 :: t_Mo_join_30
abbrev t_Mo_join_28 : List UInt8 := 3 :: t_Mo_join_29
abbrev t_Mo_join_25 : List UInt8 := 167 :: 255 :: 233 :: t_Mo_join_28
abbrev t_Mo_join_22 : List UInt8 := 132 :: 1 :: 1 :: t_Mo_join_25
abbrev t_Mo_join_21 : List UInt8 := 80 :: t_Mo_join_22
abbrev t_Mo_join_20 : List UInt8 := 9 :: t_Mo_join_21
abbrev t_Mo_join_19 : List UInt8 := 27 :: t_Mo_join_20
abbrev t_Mo_join_16 : List UInt8 := 180 :: 0 :: 125 :: t_Mo_join_19
abbrev t_Mo_join_15 : List UInt8 := 42 :: t_Mo_join_16
abbrev t_Mo_join_12 : List UInt8 := 162 :: 0 :: 16 :: t_Mo_join_15
abbrev t_Mo_join_11 : List UInt8 := 96 :: t_Mo_join_12
abbrev t_Mo_join_8 : List UInt8 := 180 :: 1 :: 25 :: t_Mo_join_11
abbrev t_Mo_join_7 : List UInt8 := 42 :: t_Mo_join_8
abbrev t_Mo_join_4 : List UInt8 := 180 :: 1 :: 22 :: t_Mo_join_7
abbrev t_Mo_join_3 : List UInt8 := 42 :: t_Mo_join_4
abbrev t_Mo_join_2 : List UInt8 := 27 :: t_Mo_join_3
abbrev t_Mo_join_1 : List UInt8 := 60 :: t_Mo_join_2
abbrev t_Mo_join_0 : List UInt8 := 3 :: t_Mo_join_1
theorem a_Mo_join_0 : dk_at b_Mo_join 0 t_Mo_join_0 := dk_start (by decide +kernel)
theorem a_Mo_join_1 : dk_at b_Mo_join 1 t_Mo_join_1 := dk_go 1 a_Mo_join_0 rfl
theorem a_Mo_join_2 : dk_at b_Mo_join 2 t_Mo_join_2 := dk_go 1 a_Mo_join_1 rfl
theorem a_Mo_join_3 : dk_at b_Mo_join 3 t_Mo_join_3 := dk_go 1 a_Mo_join_2 rfl
theorem a_Mo_join_4 : dk_at b_Mo_join 4 t_Mo_join_4 := dk_go 1 a_Mo_join_3 rfl
theorem a_Mo_join_7 : dk_at b_Mo_join 7 t_Mo_join_7 := dk_go 3 a_Mo_join_4 rfl
theorem a_Mo_join_8 : dk_at b_Mo_join 8 t_Mo_join_8 := dk_go 1 a_Mo_join_7 rfl
theorem a_Mo_join_11 : dk_at b_Mo_join 11 t_Mo_join_11 := dk_go 3 a_Mo_join_8 rfl
theorem a_Mo_join_12 : dk_at b_Mo_join 12 t_Mo_join_12 := dk_go 1 a_Mo_join_11 rfl
theorem a_Mo_join_15 : dk_at b_Mo_join 15 t_Mo_join_15 := dk_go 3 a_Mo_join_12 rfl
theorem a_Mo_join_16 : dk_at b_Mo_join 16 t_Mo_join_16 := dk_go 1 a_Mo_join_15 rfl
theorem a_Mo_join_19 : dk_at b_Mo_join 19 t_Mo_join_19 := dk_go 3 a_Mo_join_16 rfl
theorem a_Mo_join_20 : dk_at b_Mo_join 20 t_Mo_join_20 := dk_go 1 a_Mo_join_19 rfl
theorem a_Mo_join_21 : dk_at b_Mo_join 21 t_Mo_join_21 := dk_go 1 a_Mo_join_20 rfl
theorem a_Mo_join_22 : dk_at b_Mo_join 22 t_Mo_join_22 := dk_go 1 a_Mo_join_21 rfl
theorem a_Mo_join_25 : dk_at b_Mo_join 25 t_Mo_join_25 := dk_go 3 a_Mo_join_22 rfl
theorem a_Mo_join_28 : dk_at b_Mo_join 28 t_Mo_join_28 := dk_go 3 a_Mo_join_25 rfl
theorem a_Mo_join_29 : dk_at b_Mo_join 29 t_Mo_join_29 := dk_go 1 a_Mo_join_28 rfl
theorem a_Mo_join_30 : dk_at b_Mo_join 30 t_Mo_join_30 := dk_go 1 a_Mo_join_29 rfl
theorem a_Mo_join_31 : dk_at b_Mo_join 31 t_Mo_join_31 := dk_go 1 a_Mo_join_30 rfl
theorem a_Mo_join_32 : dk_at b_Mo_join 32 t_Mo_join_32 := dk_go 1 a_Mo_join_31 rfl
theorem a_Mo_join_33 : dk_at b_Mo_join 33 t_Mo_join_33 := dk_go 1 a_Mo_join_32 rfl
theorem a_Mo_join_36 : dk_at b_Mo_join 36 t_Mo_join_36 := dk_go 3 a_Mo_join_33 rfl
theorem a_Mo_join_37 : dk_at b_Mo_join 37 t_Mo_join_37 := dk_go 1 a_Mo_join_36 rfl
theorem a_Mo_join_40 : dk_at b_Mo_join 40 t_Mo_join_40 := dk_go 3 a_Mo_join_37 rfl
theorem a_Mo_join_41 : dk_at b_Mo_join 41 t_Mo_join_41 := dk_go 1 a_Mo_join_40 rfl
theorem a_Mo_join_44 : dk_at b_Mo_join 44 t_Mo_join_44 := dk_go 3 a_Mo_join_41 rfl
theorem a_Mo_join_45 : dk_at b_Mo_join 45 t_Mo_join_45 := dk_go 1 a_Mo_join_44 rfl
theorem a_Mo_join_46 : dk_at b_Mo_join 46 t_Mo_join_46 := dk_go 1 a_Mo_join_45 rfl
theorem a_Mo_join_47 : dk_at b_Mo_join 47 t_Mo_join_47 := dk_go 1 a_Mo_join_46 rfl
theorem a_Mo_join_48 : dk_at b_Mo_join 48 t_Mo_join_48 := dk_go 1 a_Mo_join_47 rfl
theorem a_Mo_join_51 : dk_at b_Mo_join 51 t_Mo_join_51 := dk_go 3 a_Mo_join_48 rfl
theorem a_Mo_join_52 : dk_at b_Mo_join 52 t_Mo_join_52 := dk_go 1 a_Mo_join_51 rfl
theorem a_Mo_join_53 : dk_at b_Mo_join 53 t_Mo_join_53 := dk_go 1 a_Mo_join_52 rfl
theorem a_Mo_join_54 : dk_at b_Mo_join 54 t_Mo_join_54 := dk_go 1 a_Mo_join_53 rfl
theorem a_Mo_join_55 : dk_at b_Mo_join 55 t_Mo_join_55 := dk_go 1 a_Mo_join_54 rfl
theorem a_Mo_join_56 : dk_at b_Mo_join 56 t_Mo_join_56 := dk_go 1 a_Mo_join_55 rfl
theorem a_Mo_join_57 : dk_at b_Mo_join 57 t_Mo_join_57 := dk_go 1 a_Mo_join_56 rfl
theorem a_Mo_join_60 : dk_at b_Mo_join 60 t_Mo_join_60 := dk_go 3 a_Mo_join_57 rfl
theorem a_Mo_join_61 : dk_at b_Mo_join 61 t_Mo_join_61 := dk_go 1 a_Mo_join_60 rfl
theorem a_Mo_join_64 : dk_at b_Mo_join 64 t_Mo_join_64 := dk_go 3 a_Mo_join_61 rfl
theorem a_Mo_join_65 : dk_at b_Mo_join 65 t_Mo_join_65 := dk_go 1 a_Mo_join_64 rfl
theorem a_Mo_join_66 : dk_at b_Mo_join 66 t_Mo_join_66 := dk_go 1 a_Mo_join_65 rfl
theorem a_Mo_join_69 : dk_at b_Mo_join 69 t_Mo_join_69 := dk_go 3 a_Mo_join_66 rfl
theorem a_Mo_join_70 : dk_at b_Mo_join 70 t_Mo_join_70 := dk_go 1 a_Mo_join_69 rfl
theorem a_Mo_join_73 : dk_at b_Mo_join 73 t_Mo_join_73 := dk_go 3 a_Mo_join_70 rfl
theorem a_Mo_join_74 : dk_at b_Mo_join 74 t_Mo_join_74 := dk_go 1 a_Mo_join_73 rfl
theorem a_Mo_join_75 : dk_at b_Mo_join 75 t_Mo_join_75 := dk_go 1 a_Mo_join_74 rfl
theorem a_Mo_join_76 : dk_at b_Mo_join 76 t_Mo_join_76 := dk_go 1 a_Mo_join_75 rfl
theorem a_Mo_join_77 : dk_at b_Mo_join 77 t_Mo_join_77 := dk_go 1 a_Mo_join_76 rfl
theorem a_Mo_join_78 : dk_at b_Mo_join 78 t_Mo_join_78 := dk_go 1 a_Mo_join_77 rfl
theorem a_Mo_join_79 : dk_at b_Mo_join 79 t_Mo_join_79 := dk_go 1 a_Mo_join_78 rfl
theorem a_Mo_join_80 : dk_at b_Mo_join 80 t_Mo_join_80 := dk_go 1 a_Mo_join_79 rfl
theorem a_Mo_join_81 : dk_at b_Mo_join 81 t_Mo_join_81 := dk_go 1 a_Mo_join_80 rfl
theorem a_Mo_join_82 : dk_at b_Mo_join 82 t_Mo_join_82 := dk_go 1 a_Mo_join_81 rfl
theorem a_Mo_join_85 : dk_at b_Mo_join 85 t_Mo_join_85 := dk_go 3 a_Mo_join_82 rfl
theorem a_Mo_join_86 : dk_at b_Mo_join 86 t_Mo_join_86 := dk_go 1 a_Mo_join_85 rfl
theorem a_Mo_join_87 : dk_at b_Mo_join 87 t_Mo_join_87 := dk_go 1 a_Mo_join_86 rfl
theorem a_Mo_join_88 : dk_at b_Mo_join 88 t_Mo_join_88 := dk_go 1 a_Mo_join_87 rfl
theorem a_Mo_join_89 : dk_at b_Mo_join 89 t_Mo_join_89 := dk_go 1 a_Mo_join_88 rfl
theorem a_Mo_join_90 : dk_at b_Mo_join 90 t_Mo_join_90 := dk_go 1 a_Mo_join_89 rfl
theorem a_Mo_join_91 : dk_at b_Mo_join 91 t_Mo_join_91 := dk_go 1 a_Mo_join_90 rfl
theorem a_Mo_join_92 : dk_at b_Mo_join 92 t_Mo_join_92 := dk_go 1 a_Mo_join_91 rfl
theorem a_Mo_join_93 : dk_at b_Mo_join 93 t_Mo_join_93 := dk_go 1 a_Mo_join_92 rfl
theorem a_Mo_join_94 : dk_at b_Mo_join 94 t_Mo_join_94 := dk_go 1 a_Mo_join_93 rfl
theorem a_Mo_join_96 : dk_at b_Mo_join 96 t_Mo_join_96 := dk_go 2 a_Mo_join_94 rfl
theorem a_Mo_join_98 : dk_at b_Mo_join 98 t_Mo_join_98 := dk_go 2 a_Mo_join_96 rfl
theorem a_Mo_join_99 : dk_at b_Mo_join 99 t_Mo_join_99 := dk_go 1 a_Mo_join_98 rfl
theorem a_Mo_join_100 : dk_at b_Mo_join 100 t_Mo_join_100 := dk_go 1 a_Mo_join_99 rfl
theorem a_Mo_join_103 : dk_at b_Mo_join 103 t_Mo_join_103 := dk_go 3 a_Mo_join_100 rfl
theorem a_Mo_join_104 : dk_at b_Mo_join 104 t_Mo_join_104 := dk_go 1 a_Mo_join_103 rfl
theorem a_Mo_join_107 : dk_at b_Mo_join 107 t_Mo_join_107 := dk_go 3 a_Mo_join_104 rfl
theorem a_Mo_join_108 : dk_at b_Mo_join 108 t_Mo_join_108 := dk_go 1 a_Mo_join_107 rfl
theorem a_Mo_join_111 : dk_at b_Mo_join 111 t_Mo_join_111 := dk_go 3 a_Mo_join_108 rfl
theorem a_Mo_join_112 : dk_at b_Mo_join 112 t_Mo_join_112 := dk_go 1 a_Mo_join_111 rfl
theorem a_Mo_join_115 : dk_at b_Mo_join 115 t_Mo_join_115 := dk_go 3 a_Mo_join_112 rfl
theorem a_Mo_join_116 : dk_at b_Mo_join 116 t_Mo_join_116 := dk_go 1 a_Mo_join_115 rfl
theorem a_Mo_join_117 : dk_at b_Mo_join 117 t_Mo_join_117 := dk_go 1 a_Mo_join_116 rfl
theorem a_Mo_join_120 : dk_at b_Mo_join 120 t_Mo_join_120 := dk_go 3 a_Mo_join_117 rfl
theorem a_Mo_join_121 : dk_at b_Mo_join 121 t_Mo_join_121 := dk_go 1 a_Mo_join_120 rfl
theorem a_Mo_join_124 : dk_at b_Mo_join 124 t_Mo_join_124 := dk_go 3 a_Mo_join_121 rfl
theorem a_Mo_join_126 : dk_at b_Mo_join 126 t_Mo_join_126 := dk_go 2 a_Mo_join_124 rfl
theorem a_Mo_join_127 : dk_at b_Mo_join 127 t_Mo_join_127 := dk_go 1 a_Mo_join_126 rfl
theorem a_Mo_join_128 : dk_at b_Mo_join 128 t_Mo_join_128 := dk_go 1 a_Mo_join_127 rfl
theorem a_Mo_join_131 : dk_at b_Mo_join 131 t_Mo_join_131 := dk_go 3 a_Mo_join_128 rfl
theorem a_Mo_join_133 : dk_at b_Mo_join 133 t_Mo_join_133 := dk_go 2 a_Mo_join_131 rfl
theorem a_Mo_join_134 : dk_at b_Mo_join 134 t_Mo_join_134 := dk_go 1 a_Mo_join_133 rfl
theorem a_Mo_join_137 : dk_at b_Mo_join 137 t_Mo_join_137 := dk_go 3 a_Mo_join_134 rfl
theorem a_Mo_join_138 : dk_at b_Mo_join 138 t_Mo_join_138 := dk_go 1 a_Mo_join_137 rfl
theorem a_Mo_join_141 : dk_at b_Mo_join 141 t_Mo_join_141 := dk_go 3 a_Mo_join_138 rfl
theorem a_Mo_join_142 : dk_at b_Mo_join 142 t_Mo_join_142 := dk_go 1 a_Mo_join_141 rfl
theorem a_Mo_join_143 : dk_at b_Mo_join 143 t_Mo_join_143 := dk_go 1 a_Mo_join_142 rfl
theorem a_Mo_join_144 : dk_at b_Mo_join 144 t_Mo_join_144 := dk_go 1 a_Mo_join_143 rfl
theorem a_Mo_join_147 : dk_at b_Mo_join 147 t_Mo_join_147 := dk_go 3 a_Mo_join_144 rfl
theorem a_Mo_join_148 : dk_at b_Mo_join 148 t_Mo_join_148 := dk_go 1 a_Mo_join_147 rfl
theorem a_Mo_join_151 : dk_at b_Mo_join 151 t_Mo_join_151 := dk_go 3 a_Mo_join_148 rfl
theorem a_Mo_join_152 : dk_at b_Mo_join 152 t_Mo_join_152 := dk_go 1 a_Mo_join_151 rfl
theorem a_Mo_join_153 : dk_at b_Mo_join 153 t_Mo_join_153 := dk_go 1 a_Mo_join_152 rfl
theorem a_Mo_join_156 : dk_at b_Mo_join 156 t_Mo_join_156 := dk_go 3 a_Mo_join_153 rfl
theorem a_Mo_join_159 : dk_at b_Mo_join 159 t_Mo_join_159 := dk_go 3 a_Mo_join_156 rfl
theorem a_Mo_join_160 : dk_at b_Mo_join 160 t_Mo_join_160 := dk_go 1 a_Mo_join_159 rfl
theorem a_Mo_join_163 : dk_at b_Mo_join 163 t_Mo_join_163 := dk_go 3 a_Mo_join_160 rfl
theorem a_Mo_join_164 : dk_at b_Mo_join 164 t_Mo_join_164 := dk_go 1 a_Mo_join_163 rfl
theorem a_Mo_join_165 : dk_at b_Mo_join 165 t_Mo_join_165 := dk_go 1 a_Mo_join_164 rfl
theorem a_Mo_join_166 : dk_at b_Mo_join 166 t_Mo_join_166 := dk_go 1 a_Mo_join_165 rfl
theorem a_Mo_join_167 : dk_at b_Mo_join 167 t_Mo_join_167 := dk_go 1 a_Mo_join_166 rfl
theorem a_Mo_join_168 : dk_at b_Mo_join 168 t_Mo_join_168 := dk_go 1 a_Mo_join_167 rfl
theorem a_Mo_join_171 : dk_at b_Mo_join 171 t_Mo_join_171 := dk_go 3 a_Mo_join_168 rfl
theorem a_Mo_join_172 : dk_at b_Mo_join 172 t_Mo_join_172 := dk_go 1 a_Mo_join_171 rfl
theorem a_Mo_join_173 : dk_at b_Mo_join 173 t_Mo_join_173 := dk_go 1 a_Mo_join_172 rfl
theorem a_Mo_join_174 : dk_at b_Mo_join 174 t_Mo_join_174 := dk_go 1 a_Mo_join_173 rfl
theorem a_Mo_join_177 : dk_at b_Mo_join 177 t_Mo_join_177 := dk_go 3 a_Mo_join_174 rfl
theorem a_Mo_join_178 : dk_at b_Mo_join 178 t_Mo_join_178 := dk_go 1 a_Mo_join_177 rfl
theorem a_Mo_join_179 : dk_at b_Mo_join 179 t_Mo_join_179 := dk_go 1 a_Mo_join_178 rfl
theorem a_Mo_join_180 : dk_at b_Mo_join 180 t_Mo_join_180 := dk_go 1 a_Mo_join_179 rfl
theorem a_Mo_join_183 : dk_at b_Mo_join 183 t_Mo_join_183 := dk_go 3 a_Mo_join_180 rfl
theorem a_Mo_join_185 : dk_at b_Mo_join 185 t_Mo_join_185 := dk_go 2 a_Mo_join_183 rfl
theorem a_Mo_join_186 : dk_at b_Mo_join 186 t_Mo_join_186 := dk_go 1 a_Mo_join_185 rfl
theorem a_Mo_join_189 : dk_at b_Mo_join 189 t_Mo_join_189 := dk_go 3 a_Mo_join_186 rfl
theorem a_Mo_join_192 : dk_at b_Mo_join 192 t_Mo_join_192 := dk_go 3 a_Mo_join_189 rfl
theorem a_Mo_join_193 : dk_at b_Mo_join 193 t_Mo_join_193 := dk_go 1 a_Mo_join_192 rfl
theorem a_Mo_join_196 : dk_at b_Mo_join 196 t_Mo_join_196 := dk_go 3 a_Mo_join_193 rfl
theorem a_Mo_join_197 : dk_at b_Mo_join 197 t_Mo_join_197 := dk_go 1 a_Mo_join_196 rfl
theorem a_Mo_join_199 : dk_at b_Mo_join 199 t_Mo_join_199 := dk_go 2 a_Mo_join_197 rfl
theorem a_Mo_join_201 : dk_at b_Mo_join 201 t_Mo_join_201 := dk_go 2 a_Mo_join_199 rfl
theorem a_Mo_join_204 : dk_at b_Mo_join 204 t_Mo_join_204 := dk_go 3 a_Mo_join_201 rfl
theorem a_Mo_join_205 : dk_at b_Mo_join 205 t_Mo_join_205 := dk_go 1 a_Mo_join_204 rfl
theorem a_Mo_join_208 : dk_at b_Mo_join 208 t_Mo_join_208 := dk_go 3 a_Mo_join_205 rfl
theorem a_Mo_join_209 : dk_at b_Mo_join 209 t_Mo_join_209 := dk_go 1 a_Mo_join_208 rfl
theorem a_Mo_join_210 : dk_at b_Mo_join 210 t_Mo_join_210 := dk_go 1 a_Mo_join_209 rfl
theorem a_Mo_join_211 : dk_at b_Mo_join 211 t_Mo_join_211 := dk_go 1 a_Mo_join_210 rfl
theorem a_Mo_join_212 : dk_at b_Mo_join 212 t_Mo_join_212 := dk_go 1 a_Mo_join_211 rfl
theorem a_Mo_join_213 : dk_at b_Mo_join 213 t_Mo_join_213 := dk_go 1 a_Mo_join_212 rfl
theorem a_Mo_join_216 : dk_at b_Mo_join 216 t_Mo_join_216 := dk_go 3 a_Mo_join_213 rfl
theorem a_Mo_join_218 : dk_at b_Mo_join 218 t_Mo_join_218 := dk_go 2 a_Mo_join_216 rfl
theorem a_Mo_join_219 : dk_at b_Mo_join 219 t_Mo_join_219 := dk_go 1 a_Mo_join_218 rfl
theorem a_Mo_join_220 : dk_at b_Mo_join 220 t_Mo_join_220 := dk_go 1 a_Mo_join_219 rfl
theorem a_Mo_join_221 : dk_at b_Mo_join 221 t_Mo_join_221 := dk_go 1 a_Mo_join_220 rfl
theorem a_Mo_join_222 : dk_at b_Mo_join 222 t_Mo_join_222 := dk_go 1 a_Mo_join_221 rfl
theorem a_Mo_join_223 : dk_at b_Mo_join 223 t_Mo_join_223 := dk_go 1 a_Mo_join_222 rfl
theorem a_Mo_join_224 : dk_at b_Mo_join 224 t_Mo_join_224 := dk_go 1 a_Mo_join_223 rfl
theorem a_Mo_join_227 : dk_at b_Mo_join 227 t_Mo_join_227 := dk_go 3 a_Mo_join_224 rfl
theorem a_Mo_join_230 : dk_at b_Mo_join 230 t_Mo_join_230 := dk_go 3 a_Mo_join_227 rfl
theorem a_Mo_join_233 : dk_at b_Mo_join 233 t_Mo_join_233 := dk_go 3 a_Mo_join_230 rfl
theorem a_Mo_join_236 : dk_at b_Mo_join 236 t_Mo_join_236 := dk_go 3 a_Mo_join_233 rfl
theorem d_Mo_join_0 : decode b_Mo_join 0 = .ok (.iconst 0, 1) := dk_0 a_Mo_join_0 (dko_3 _)
theorem d_Mo_join_1 : decode b_Mo_join 1 = .ok (.istore_n 1, 1) := dk_0 a_Mo_join_1 (dko_60 _)
theorem d_Mo_join_2 : decode b_Mo_join 2 = .ok (.iload_n 1, 1) := dk_0 a_Mo_join_2 (dko_27 _)
theorem d_Mo_join_3 : decode b_Mo_join 3 = .ok (.aload_n 0, 1) := dk_0 a_Mo_join_3 (dko_42 _)
theorem d_Mo_join_4 : decode b_Mo_join 4 = .ok (.getfield 278, 3) := dk_U2 a_Mo_join_4 (dko_180 _) rfl
theorem d_Mo_join_7 : decode b_Mo_join 7 = .ok (.aload_n 0, 1) := dk_0 a_Mo_join_7 (dko_42 _)
theorem d_Mo_join_8 : decode b_Mo_join 8 = .ok (.getfield 281, 3) := dk_U2 a_Mo_join_8 (dko_180 _) rfl
theorem d_Mo_join_11 : decode b_Mo_join 11 = .ok (.iadd, 1) := dk_0 a_Mo_join_11 (dko_96 _)
theorem d_Mo_join_12 : decode b_Mo_join 12 = .ok (.if_icmp .ge 16, 3) := dk_S2 a_Mo_join_12 (dko_162 _) (by decide +kernel)
theorem d_Mo_join_28 : decode b_Mo_join 28 = .ok (.iconst 0, 1) := dk_0 a_Mo_join_28 (dko_3 _)
theorem d_Mo_join_29 : decode b_Mo_join 29 = .ok (.istore_n 1, 1) := dk_0 a_Mo_join_29 (dko_60 _)
theorem d_Mo_join_30 : decode b_Mo_join 30 = .ok (.iload_n 1, 1) := dk_0 a_Mo_join_30 (dko_27 _)
theorem d_Mo_join_31 : decode b_Mo_join 31 = .ok (.iconst 2, 1) := dk_0 a_Mo_join_31 (dko_5 _)
theorem d_Mo_join_32 : decode b_Mo_join 32 = .ok (.aload_n 0, 1) := dk_0 a_Mo_join_32 (dko_42 _)
theorem d_Mo_join_33 : decode b_Mo_join 33 = .ok (.getfield 281, 3) := dk_U2 a_Mo_join_33 (dko_180 _) rfl
theorem d_Mo_join_36 : decode b_Mo_join 36 = .ok (.imul, 1) := dk_0 a_Mo_join_36 (dko_104 _)
theorem d_Mo_join_37 : decode b_Mo_join 37 = .ok (.if_icmp .ge 199, 3) := dk_S2 a_Mo_join_37 (dko_162 _) (by decide +kernel)
theorem d_Mo_join_236 : decode b_Mo_join 236 = .ok (.return_, 1) := dk_0 a_Mo_join_236 (dko_177 _)
set_option maxHeartbeats 4000000 in
set_option maxRecDepth 100000 in
theorem c_Mo_join (l : Launch) (dC : Nat → ClassId) (dI : Nat → Nat → Nat) (cI cB cZ cJ : ClassId) (oM : Nat) (fm : List Value) (hm_things : fx fm 4 (.int 0)) (hm_pipes : fx fm 11 (.int 0)) (sz : Nat) : Met l y_Mo_join w_Mo_join ({ frames := 0, cells := 0, slots := 0, locals := 0 }) (va_Pc [.ref oM] (PW dC dI cI cB cZ cJ [(oM, .inr (12, fm))] sz)) (va_Qv (fun _ : Unit => True) (fun _ _ => True) (va_A [] sz)) 0 0 (va_A [] sz) := by
  refine Met.ofW (cc := b_Mo_join) (maxL := 6) (ret := none) (by decide) rfl ?_
  intro p e s m args below meth c s₁ B hml hv
  obtain ⟨rfl, hsz, hP, hK, hD⟩ := hv
  have hx := B.exec
  have hb := B.bytes
  have hr := B.returns
  have hts := atoms_spec (ws := w_Mo_join) B.pre
  have hown : s.vm.findClass R_Mo = some m.cls := findClass_of_methodNamed B.named
  have hlocks := B.notSynchronized
  subst hsz
  generalize hAe : va_A [] s.heap.size = A at ⊢
  have hA : ∀ q : Nat, s.heap.size ≤ q → A q := fun q h => by rw [← hAe]; exact Or.inr h
  have hS : va_S A s.heap s.heap [] := va_S.rf
  have hP : va_P (dC, dI) classes [(oM, .inr (12, fm))] s.heap := hP
  have hl := lv_entry ([.ref oM]) (n := 6) (Nat.le_of_ble_eq_true rfl)
  rw [lg_entry_eq]
  generalize (lg_sl ([.ref oM]) ++ List.replicate (6 - (lg_sl ([.ref oM])).length) Slot.unset).toArray = ls at hl ⊢
  have hl : lv_has ls 6 [(0, .ref oM)] := hl
  refine lv_iconst (v := 0) hx hb d_Mo_join_0 (by decide) ?_
  refine lv_istore_n hx hb d_Mo_join_1 rfl hl (by decide) rfl (fun ls hl => ?_)
  have hl : lv_has ls 6 [(1, .int 0), (0, .ref oM)] := hl
  refine lv_iload_n hx hb d_Mo_join_2 rfl (lv_at hl 0 rfl) ?_
  refine lv_aload_n hx hb d_Mo_join_3 rfl (lv_at hl 1 rfl) ?_
  refine va_get (D := (dC, dI)) (ci := 12) (v := .int 0) (C := R_Mo) (T := F_Mo) (N := 87) hx hb hts (fun w h => List.mem_cons_of_mem _ (in_Mo w h)) hown hK.1 hP 0 rfl rfl 4 (by decide) (hts _ (List.mem_cons_of_mem _ mw_1798)) (fun _ h9 => h9) hm_things d_Mo_join_4 ?_
  refine lv_aload_n hx hb d_Mo_join_7 rfl (lv_at hl 1 rfl) ?_
  refine va_get (D := (dC, dI)) (ci := 12) (v := .int 0) (C := R_Mo) (T := F_Mo) (N := 87) hx hb hts (fun w h => List.mem_cons_of_mem _ (in_Mo w h)) hown hK.1 hP 0 rfl rfl 11 (by decide) (hts _ (List.mem_cons_of_mem _ mw_1805)) (fun _ h9 => h9) hm_pipes d_Mo_join_8 ?_
  refine lv_iadd hx hb d_Mo_join_11 ?_
  refine lv_topi (fun x0 e0 => ?_)
  obtain rfl : x0 = 0 := e0.trans (by decide)
  refine lv_icmp_ge (tgt := 28) hx hb d_Mo_join_12 (by decide) (fun _ => ?_) (fun h => absurd (by decide) h)
  refine lv_iconst (v := 0) hx hb d_Mo_join_28 (by decide) ?_
  refine lv_istore_n hx hb d_Mo_join_29 rfl hl (by decide) rfl (fun ls hl => ?_)
  have hl : lv_has ls 6 [(1, .int 0), (0, .ref oM)] := hl
  refine lv_iload_n hx hb d_Mo_join_30 rfl (lv_at hl 0 rfl) ?_
  refine lv_iconst (v := 2) hx hb d_Mo_join_31 (by decide) ?_
  refine lv_aload_n hx hb d_Mo_join_32 rfl (lv_at hl 1 rfl) ?_
  refine va_get (D := (dC, dI)) (ci := 12) (v := .int 0) (C := R_Mo) (T := F_Mo) (N := 87) hx hb hts (fun w h => List.mem_cons_of_mem _ (in_Mo w h)) hown hK.1 hP 0 rfl rfl 11 (by decide) (hts _ (List.mem_cons_of_mem _ mw_1805)) (fun _ h9 => h9) hm_pipes d_Mo_join_33 ?_
  refine lv_imul hx hb d_Mo_join_36 ?_
  refine lv_topi (fun x0 e0 => ?_)
  obtain rfl : x0 = 0 := e0.trans (by decide)
  refine lv_icmp_ge (tgt := 236) hx hb d_Mo_join_37 (by decide) (fun _ => ?_) (fun h => absurd (by decide) h)
  exact W.vret hx hb hr (fun t ht hW => ⟨⟨(), rfl, trivial, trivial⟩, hS.F ht⟩) hS.2.2 d_Mo_join_236
abbrev t_Mo_look_110 : List UInt8 := 177 :: []
abbrev t_Mo_look_107 : List UInt8 := 167 :: 255 :: 183 :: t_Mo_look_110
abbrev t_Mo_look_104 : List UInt8 := 132 :: 1 :: 1 :: t_Mo_look_107
abbrev t_Mo_look_101 : List UInt8 := 167 :: 255 :: 215 :: t_Mo_look_104
abbrev t_Mo_look_98 : List UInt8 := 132 :: 2 :: 1 :: t_Mo_look_101
abbrev t_Mo_look_95 : List UInt8 := 182 :: 1 :: 106 :: t_Mo_look_98
abbrev t_Mo_look_94 : List UInt8 := 46 :: t_Mo_look_95
abbrev t_Mo_look_93 : List UInt8 := 27 :: t_Mo_look_94
abbrev t_Mo_look_90 : List UInt8 := 180 :: 0 :: 89 :: t_Mo_look_93
abbrev t_Mo_look_89 : List UInt8 := 42 :: t_Mo_look_90
abbrev t_Mo_look_88 : List UInt8 := 96 :: t_Mo_look_89
abbrev t_Mo_look_87 : List UInt8 := 108 :: t_Mo_look_88
abbrev t_Mo_look_86 : List UInt8 := 5 :: t_Mo_look_87
abbrev t_Mo_look_85 : List UInt8 := 46 :: t_Mo_look_86
abbrev t_Mo_look_84 : List UInt8 := 96 :: t_Mo_look_85
abbrev t_Mo_look_83 : List UInt8 := 28 :: t_Mo_look_84
abbrev t_Mo_look_82 : List UInt8 := 104 :: t_Mo_look_83
abbrev t_Mo_look_81 : List UInt8 := 27 :: t_Mo_look_82
abbrev t_Mo_look_79 : List UInt8 := 16 :: 24 :: t_Mo_look_81
abbrev t_Mo_look_76 : List UInt8 := 180 :: 0 :: 98 :: t_Mo_look_79
abbrev t_Mo_look_75 : List UInt8 := 42 :: t_Mo_look_76
abbrev t_Mo_look_72 : List UInt8 := 180 :: 1 :: 22 :: t_Mo_look_75
abbrev t_Mo_look_71 : List UInt8 := 42 :: t_Mo_look_72
abbrev t_Mo_look_70 : List UInt8 := 42 :: t_Mo_look_71
abbrev t_Mo_look_67 : List UInt8 := 162 :: 0 :: 37 :: t_Mo_look_70
abbrev t_Mo_look_66 : List UInt8 := 46 :: t_Mo_look_67
abbrev t_Mo_look_65 : List UInt8 := 27 :: t_Mo_look_66
abbrev t_Mo_look_62 : List UInt8 := 180 :: 0 :: 95 :: t_Mo_look_65
abbrev t_Mo_look_61 : List UInt8 := 42 :: t_Mo_look_62
abbrev t_Mo_look_60 : List UInt8 := 28 :: t_Mo_look_61
abbrev t_Mo_look_59 : List UInt8 := 61 :: t_Mo_look_60
abbrev t_Mo_look_58 : List UInt8 := 3 :: t_Mo_look_59
abbrev t_Mo_look_55 : List UInt8 := 182 :: 1 :: 106 :: t_Mo_look_58
abbrev t_Mo_look_54 : List UInt8 := 46 :: t_Mo_look_55
abbrev t_Mo_look_53 : List UInt8 := 27 :: t_Mo_look_54
abbrev t_Mo_look_50 : List UInt8 := 180 :: 0 :: 89 :: t_Mo_look_53
abbrev t_Mo_look_49 : List UInt8 := 42 :: t_Mo_look_50
abbrev t_Mo_look_48 : List UInt8 := 46 :: t_Mo_look_49
abbrev t_Mo_look_47 : List UInt8 := 27 :: t_Mo_look_48
abbrev t_Mo_look_44 : List UInt8 := 180 :: 0 :: 86 :: t_Mo_look_47
abbrev t_Mo_look_43 : List UInt8 := 42 :: t_Mo_look_44
abbrev t_Mo_look_42 : List UInt8 := 42 :: t_Mo_look_43
abbrev t_Mo_look_39 : List UInt8 := 162 :: 0 :: 71 :: t_Mo_look_42
abbrev t_Mo_look_36 : List UInt8 := 180 :: 1 :: 28 :: t_Mo_look_39
abbrev t_Mo_look_35 : List UInt8 := 42 :: t_Mo_look_36
abbrev t_Mo_look_34 : List UInt8 := 27 :: t_Mo_look_35
abbrev t_Mo_look_33 : List UInt8 := 60 :: t_Mo_look_34
abbrev t_Mo_look_32 : List UInt8 := 3 :: t_Mo_look_33
abbrev t_Mo_look_29 : List UInt8 := 167 :: 255 :: 229 :: t_Mo_look_32
abbrev t_Mo_look_26 : List UInt8 := 132 :: 1 :: 1 :: t_Mo_look_29
abbrev t_Mo_look_25 : List UInt8 := 79 :: t_Mo_look_26
abbrev t_Mo_look_22 : List UInt8 := 182 :: 1 :: 67 :: t_Mo_look_25
abbrev t_Mo_look_21 : List UInt8 := 27 :: t_Mo_look_22
abbrev t_Mo_look_20 : List UInt8 := 42 :: t_Mo_look_21
abbrev t_Mo_look_19 : List UInt8 := 27 :: t_Mo_look_20
abbrev t_Mo_look_16 : List UInt8 := 180 :: 0 :: 122 :: t_Mo_look_19
abbrev t_Mo_look_15 : List UInt8 := 42 :: t_Mo_look_16
abbrev t_Mo_look_12 : List UInt8 := 162 :: 0 :: 20 :: t_Mo_look_15
abbrev t_Mo_look_11 : List UInt8 := 96 :: t_Mo_look_12
abbrev t_Mo_look_8 : List UInt8 := 180 :: 1 :: 25 :: t_Mo_look_11
abbrev t_Mo_look_7 : List UInt8 := 42 :: t_Mo_look_8
abbrev t_Mo_look_4 : List UInt8 := 180 :: 1 :: 22 :: t_Mo_look_7
abbrev t_Mo_look_3 : List UInt8 := 42 :: t_Mo_look_4
abbrev t_Mo_look_2 : List UInt8 := 27 :: t_Mo_look_3
abbrev t_Mo_look_1 : List UInt8 := 60 :: t_Mo_look_2
abbrev t_Mo_look_0 : List UInt8 := 3 :: t_Mo_look_1
theorem a_Mo_look_0 : dk_at b_Mo_look 0 t_Mo_look_0 := dk_start (by decide +kernel)
theorem a_Mo_look_1 : dk_at b_Mo_look 1 t_Mo_look_1 := dk_go 1 a_Mo_look_0 rfl
theorem a_Mo_look_2 : dk_at b_Mo_look 2 t_Mo_look_2 := dk_go 1 a_Mo_look_1 rfl
theorem a_Mo_look_3 : dk_at b_Mo_look 3 t_Mo_look_3 := dk_go 1 a_Mo_look_2 rfl
theorem a_Mo_look_4 : dk_at b_Mo_look 4 t_Mo_look_4 := dk_go 1 a_Mo_look_3 rfl
theorem a_Mo_look_7 : dk_at b_Mo_look 7 t_Mo_look_7 := dk_go 3 a_Mo_look_4 rfl
theorem a_Mo_look_8 : dk_at b_Mo_look 8 t_Mo_look_8 := dk_go 1 a_Mo_look_7 rfl
theorem a_Mo_look_11 : dk_at b_Mo_look 11 t_Mo_look_11 := dk_go 3 a_Mo_look_8 rfl
theorem a_Mo_look_12 : dk_at b_Mo_look 12 t_Mo_look_12 := dk_go 1 a_Mo_look_11 rfl
theorem a_Mo_look_15 : dk_at b_Mo_look 15 t_Mo_look_15 := dk_go 3 a_Mo_look_12 rfl
theorem a_Mo_look_16 : dk_at b_Mo_look 16 t_Mo_look_16 := dk_go 1 a_Mo_look_15 rfl
theorem a_Mo_look_19 : dk_at b_Mo_look 19 t_Mo_look_19 := dk_go 3 a_Mo_look_16 rfl
theorem a_Mo_look_20 : dk_at b_Mo_look 20 t_Mo_look_20 := dk_go 1 a_Mo_look_19 rfl
theorem a_Mo_look_21 : dk_at b_Mo_look 21 t_Mo_look_21 := dk_go 1 a_Mo_look_20 rfl
theorem a_Mo_look_22 : dk_at b_Mo_look 22 t_Mo_look_22 := dk_go 1 a_Mo_look_21 rfl
theorem a_Mo_look_25 : dk_at b_Mo_look 25 t_Mo_look_25 := dk_go 3 a_Mo_look_22 rfl
theorem a_Mo_look_26 : dk_at b_Mo_look 26 t_Mo_look_26 := dk_go 1 a_Mo_look_25 rfl
theorem a_Mo_look_29 : dk_at b_Mo_look 29 t_Mo_look_29 := dk_go 3 a_Mo_look_26 rfl
theorem a_Mo_look_32 : dk_at b_Mo_look 32 t_Mo_look_32 := dk_go 3 a_Mo_look_29 rfl
theorem a_Mo_look_33 : dk_at b_Mo_look 33 t_Mo_look_33 := dk_go 1 a_Mo_look_32 rfl
theorem a_Mo_look_34 : dk_at b_Mo_look 34 t_Mo_look_34 := dk_go 1 a_Mo_look_33 rfl
theorem a_Mo_look_35 : dk_at b_Mo_look 35 t_Mo_look_35 := dk_go 1 a_Mo_look_34 rfl
theorem a_Mo_look_36 : dk_at b_Mo_look 36 t_Mo_look_36 := dk_go 1 a_Mo_look_35 rfl
theorem a_Mo_look_39 : dk_at b_Mo_look 39 t_Mo_look_39 := dk_go 3 a_Mo_look_36 rfl
theorem a_Mo_look_42 : dk_at b_Mo_look 42 t_Mo_look_42 := dk_go 3 a_Mo_look_39 rfl
theorem a_Mo_look_43 : dk_at b_Mo_look 43 t_Mo_look_43 := dk_go 1 a_Mo_look_42 rfl
theorem a_Mo_look_44 : dk_at b_Mo_look 44 t_Mo_look_44 := dk_go 1 a_Mo_look_43 rfl
theorem a_Mo_look_47 : dk_at b_Mo_look 47 t_Mo_look_47 := dk_go 3 a_Mo_look_44 rfl
theorem a_Mo_look_48 : dk_at b_Mo_look 48 t_Mo_look_48 := dk_go 1 a_Mo_look_47 rfl
theorem a_Mo_look_49 : dk_at b_Mo_look 49 t_Mo_look_49 := dk_go 1 a_Mo_look_48 rfl
theorem a_Mo_look_50 : dk_at b_Mo_look 50 t_Mo_look_50 := dk_go 1 a_Mo_look_49 rfl
theorem a_Mo_look_53 : dk_at b_Mo_look 53 t_Mo_look_53 := dk_go 3 a_Mo_look_50 rfl
theorem a_Mo_look_54 : dk_at b_Mo_look 54 t_Mo_look_54 := dk_go 1 a_Mo_look_53 rfl
theorem a_Mo_look_55 : dk_at b_Mo_look 55 t_Mo_look_55 := dk_go 1 a_Mo_look_54 rfl
theorem a_Mo_look_58 : dk_at b_Mo_look 58 t_Mo_look_58 := dk_go 3 a_Mo_look_55 rfl
theorem a_Mo_look_59 : dk_at b_Mo_look 59 t_Mo_look_59 := dk_go 1 a_Mo_look_58 rfl
theorem a_Mo_look_60 : dk_at b_Mo_look 60 t_Mo_look_60 := dk_go 1 a_Mo_look_59 rfl
theorem a_Mo_look_61 : dk_at b_Mo_look 61 t_Mo_look_61 := dk_go 1 a_Mo_look_60 rfl
theorem a_Mo_look_62 : dk_at b_Mo_look 62 t_Mo_look_62 := dk_go 1 a_Mo_look_61 rfl
theorem a_Mo_look_65 : dk_at b_Mo_look 65 t_Mo_look_65 := dk_go 3 a_Mo_look_62 rfl
theorem a_Mo_look_66 : dk_at b_Mo_look 66 t_Mo_look_66 := dk_go 1 a_Mo_look_65 rfl
theorem a_Mo_look_67 : dk_at b_Mo_look 67 t_Mo_look_67 := dk_go 1 a_Mo_look_66 rfl
theorem a_Mo_look_70 : dk_at b_Mo_look 70 t_Mo_look_70 := dk_go 3 a_Mo_look_67 rfl
theorem a_Mo_look_71 : dk_at b_Mo_look 71 t_Mo_look_71 := dk_go 1 a_Mo_look_70 rfl
theorem a_Mo_look_72 : dk_at b_Mo_look 72 t_Mo_look_72 := dk_go 1 a_Mo_look_71 rfl
theorem a_Mo_look_75 : dk_at b_Mo_look 75 t_Mo_look_75 := dk_go 3 a_Mo_look_72 rfl
theorem a_Mo_look_76 : dk_at b_Mo_look 76 t_Mo_look_76 := dk_go 1 a_Mo_look_75 rfl
theorem a_Mo_look_79 : dk_at b_Mo_look 79 t_Mo_look_79 := dk_go 3 a_Mo_look_76 rfl
theorem a_Mo_look_81 : dk_at b_Mo_look 81 t_Mo_look_81 := dk_go 2 a_Mo_look_79 rfl
theorem a_Mo_look_82 : dk_at b_Mo_look 82 t_Mo_look_82 := dk_go 1 a_Mo_look_81 rfl
theorem a_Mo_look_83 : dk_at b_Mo_look 83 t_Mo_look_83 := dk_go 1 a_Mo_look_82 rfl
theorem a_Mo_look_84 : dk_at b_Mo_look 84 t_Mo_look_84 := dk_go 1 a_Mo_look_83 rfl
theorem a_Mo_look_85 : dk_at b_Mo_look 85 t_Mo_look_85 := dk_go 1 a_Mo_look_84 rfl
theorem a_Mo_look_86 : dk_at b_Mo_look 86 t_Mo_look_86 := dk_go 1 a_Mo_look_85 rfl
theorem a_Mo_look_87 : dk_at b_Mo_look 87 t_Mo_look_87 := dk_go 1 a_Mo_look_86 rfl
theorem a_Mo_look_88 : dk_at b_Mo_look 88 t_Mo_look_88 := dk_go 1 a_Mo_look_87 rfl
theorem a_Mo_look_89 : dk_at b_Mo_look 89 t_Mo_look_89 := dk_go 1 a_Mo_look_88 rfl
theorem a_Mo_look_90 : dk_at b_Mo_look 90 t_Mo_look_90 := dk_go 1 a_Mo_look_89 rfl
theorem a_Mo_look_93 : dk_at b_Mo_look 93 t_Mo_look_93 := dk_go 3 a_Mo_look_90 rfl
theorem a_Mo_look_94 : dk_at b_Mo_look 94 t_Mo_look_94 := dk_go 1 a_Mo_look_93 rfl
theorem a_Mo_look_95 : dk_at b_Mo_look 95 t_Mo_look_95 := dk_go 1 a_Mo_look_94 rfl
theorem a_Mo_look_98 : dk_at b_Mo_look 98 t_Mo_look_98 := dk_go 3 a_Mo_look_95 rfl
theorem a_Mo_look_101 : dk_at b_Mo_look 101 t_Mo_look_101 := dk_go 3 a_Mo_look_98 rfl
theorem a_Mo_look_104 : dk_at b_Mo_look 104 t_Mo_look_104 := dk_go 3 a_Mo_look_101 rfl
theorem a_Mo_look_107 : dk_at b_Mo_look 107 t_Mo_look_107 := dk_go 3 a_Mo_look_104 rfl
theorem a_Mo_look_110 : dk_at b_Mo_look 110 t_Mo_look_110 := dk_go 3 a_Mo_look_107 rfl
theorem d_Mo_look_0 : decode b_Mo_look 0 = .ok (.iconst 0, 1) := dk_0 a_Mo_look_0 (dko_3 _)
theorem d_Mo_look_1 : decode b_Mo_look 1 = .ok (.istore_n 1, 1) := dk_0 a_Mo_look_1 (dko_60 _)
theorem d_Mo_look_2 : decode b_Mo_look 2 = .ok (.iload_n 1, 1) := dk_0 a_Mo_look_2 (dko_27 _)
theorem d_Mo_look_3 : decode b_Mo_look 3 = .ok (.aload_n 0, 1) := dk_0 a_Mo_look_3 (dko_42 _)
theorem d_Mo_look_4 : decode b_Mo_look 4 = .ok (.getfield 278, 3) := dk_U2 a_Mo_look_4 (dko_180 _) rfl
theorem d_Mo_look_7 : decode b_Mo_look 7 = .ok (.aload_n 0, 1) := dk_0 a_Mo_look_7 (dko_42 _)
theorem d_Mo_look_8 : decode b_Mo_look 8 = .ok (.getfield 281, 3) := dk_U2 a_Mo_look_8 (dko_180 _) rfl
theorem d_Mo_look_11 : decode b_Mo_look 11 = .ok (.iadd, 1) := dk_0 a_Mo_look_11 (dko_96 _)
theorem d_Mo_look_12 : decode b_Mo_look 12 = .ok (.if_icmp .ge 20, 3) := dk_S2 a_Mo_look_12 (dko_162 _) (by decide +kernel)
theorem d_Mo_look_32 : decode b_Mo_look 32 = .ok (.iconst 0, 1) := dk_0 a_Mo_look_32 (dko_3 _)
theorem d_Mo_look_33 : decode b_Mo_look 33 = .ok (.istore_n 1, 1) := dk_0 a_Mo_look_33 (dko_60 _)
theorem d_Mo_look_34 : decode b_Mo_look 34 = .ok (.iload_n 1, 1) := dk_0 a_Mo_look_34 (dko_27 _)
theorem d_Mo_look_35 : decode b_Mo_look 35 = .ok (.aload_n 0, 1) := dk_0 a_Mo_look_35 (dko_42 _)
theorem d_Mo_look_36 : decode b_Mo_look 36 = .ok (.getfield 284, 3) := dk_U2 a_Mo_look_36 (dko_180 _) rfl
theorem d_Mo_look_39 : decode b_Mo_look 39 = .ok (.if_icmp .ge 71, 3) := dk_S2 a_Mo_look_39 (dko_162 _) (by decide +kernel)
theorem d_Mo_look_110 : decode b_Mo_look 110 = .ok (.return_, 1) := dk_0 a_Mo_look_110 (dko_177 _)
set_option maxHeartbeats 4000000 in
set_option maxRecDepth 100000 in
theorem c_Mo_look (l : Launch) (dC : Nat → ClassId) (dI : Nat → Nat → Nat) (cI cB cZ cJ : ClassId) (oM : Nat) (fm : List Value) (hm_things : fx fm 4 (.int 0)) (hm_pipes : fx fm 11 (.int 0)) (hm_ways : fx fm 26 (.int 0)) (sz : Nat) : Met l y_Mo_look w_Mo_look ({ frames := 0, cells := 0, slots := 0, locals := 0 }) (va_Pc [.ref oM] (PW dC dI cI cB cZ cJ [(oM, .inr (12, fm))] sz)) (va_Qv (fun _ : Unit => True) (fun _ _ => True) (va_A [] sz)) 0 0 (va_A [] sz) := by
  refine Met.ofW (cc := b_Mo_look) (maxL := 3) (ret := none) (by decide) rfl ?_
  intro p e s m args below meth c s₁ B hml hv
  obtain ⟨rfl, hsz, hP, hK, hD⟩ := hv
  have hx := B.exec
  have hb := B.bytes
  have hr := B.returns
  have hts := atoms_spec (ws := w_Mo_look) B.pre
  have hown : s.vm.findClass R_Mo = some m.cls := findClass_of_methodNamed B.named
  have hlocks := B.notSynchronized
  subst hsz
  generalize hAe : va_A [] s.heap.size = A at ⊢
  have hA : ∀ q : Nat, s.heap.size ≤ q → A q := fun q h => by rw [← hAe]; exact Or.inr h
  have hS : va_S A s.heap s.heap [] := va_S.rf
  have hP : va_P (dC, dI) classes [(oM, .inr (12, fm))] s.heap := hP
  have hl := lv_entry ([.ref oM]) (n := 3) (Nat.le_of_ble_eq_true rfl)
  rw [lg_entry_eq]
  generalize (lg_sl ([.ref oM]) ++ List.replicate (3 - (lg_sl ([.ref oM])).length) Slot.unset).toArray = ls at hl ⊢
  have hl : lv_has ls 3 [(0, .ref oM)] := hl
  refine lv_iconst (v := 0) hx hb d_Mo_look_0 (by decide) ?_
  refine lv_istore_n hx hb d_Mo_look_1 rfl hl (by decide) rfl (fun ls hl => ?_)
  have hl : lv_has ls 3 [(1, .int 0), (0, .ref oM)] := hl
  refine lv_iload_n hx hb d_Mo_look_2 rfl (lv_at hl 0 rfl) ?_
  refine lv_aload_n hx hb d_Mo_look_3 rfl (lv_at hl 1 rfl) ?_
  refine va_get (D := (dC, dI)) (ci := 12) (v := .int 0) (C := R_Mo) (T := F_Mo) (N := 87) hx hb hts (fun w h => List.mem_cons_of_mem _ (in_Mo w h)) hown hK.1 hP 0 rfl rfl 4 (by decide) (hts _ (List.mem_cons_of_mem _ mw_1798)) (fun _ h9 => h9) hm_things d_Mo_look_4 ?_
  refine lv_aload_n hx hb d_Mo_look_7 rfl (lv_at hl 1 rfl) ?_
  refine va_get (D := (dC, dI)) (ci := 12) (v := .int 0) (C := R_Mo) (T := F_Mo) (N := 87) hx hb hts (fun w h => List.mem_cons_of_mem _ (in_Mo w h)) hown hK.1 hP 0 rfl rfl 11 (by decide) (hts _ (List.mem_cons_of_mem _ mw_1805)) (fun _ h9 => h9) hm_pipes d_Mo_look_8 ?_
  refine lv_iadd hx hb d_Mo_look_11 ?_
  refine lv_topi (fun x0 e0 => ?_)
  obtain rfl : x0 = 0 := e0.trans (by decide)
  refine lv_icmp_ge (tgt := 32) hx hb d_Mo_look_12 (by decide) (fun _ => ?_) (fun h => absurd (by decide) h)
  refine lv_iconst (v := 0) hx hb d_Mo_look_32 (by decide) ?_
  refine lv_istore_n hx hb d_Mo_look_33 rfl hl (by decide) rfl (fun ls hl => ?_)
  have hl : lv_has ls 3 [(1, .int 0), (0, .ref oM)] := hl
  refine lv_iload_n hx hb d_Mo_look_34 rfl (lv_at hl 0 rfl) ?_
  refine lv_aload_n hx hb d_Mo_look_35 rfl (lv_at hl 1 rfl) ?_
  refine va_get (D := (dC, dI)) (ci := 12) (v := .int 0) (C := R_Mo) (T := F_Mo) (N := 87) hx hb hts (fun w h => List.mem_cons_of_mem _ (in_Mo w h)) hown hK.1 hP 0 rfl rfl 26 (by decide) (hts _ (List.mem_cons_of_mem _ mw_1820)) (fun _ h9 => h9) hm_ways d_Mo_look_36 ?_
  refine lv_icmp_ge (tgt := 110) hx hb d_Mo_look_39 (by decide) (fun _ => ?_) (fun h => absurd (by decide) h)
  exact W.vret hx hb hr (fun t ht hW => ⟨⟨(), rfl, trivial, trivial⟩, hS.F ht⟩) hS.2.2 d_Mo_look_110
abbrev t_Mo_flood_134 : List UInt8 := 173 :: []
abbrev t_Mo_flood_133 : List UInt8 := 32 :: t_Mo_flood_134
abbrev t_Mo_flood_130 : List UInt8 := 167 :: 255 :: 186 :: t_Mo_flood_133
abbrev t_Mo_flood_128 : List UInt8 := 54 :: 4 :: t_Mo_flood_130
abbrev t_Mo_flood_127 : List UInt8 := 3 :: t_Mo_flood_128
abbrev t_Mo_flood_124 : List UInt8 := 167 :: 0 :: 4 :: t_Mo_flood_127
abbrev t_Mo_flood_123 : List UInt8 := 4 :: t_Mo_flood_124
abbrev t_Mo_flood_120 : List UInt8 := 153 :: 0 :: 7 :: t_Mo_flood_123
abbrev t_Mo_flood_119 : List UInt8 := 148 :: t_Mo_flood_120
abbrev t_Mo_flood_117 : List UInt8 := 22 :: 5 :: t_Mo_flood_119
abbrev t_Mo_flood_116 : List UInt8 := 32 :: t_Mo_flood_117
abbrev t_Mo_flood_113 : List UInt8 := 167 :: 255 :: 214 :: t_Mo_flood_116
abbrev t_Mo_flood_110 : List UInt8 := 132 :: 7 :: 1 :: t_Mo_flood_113
abbrev t_Mo_flood_109 : List UInt8 := 65 :: t_Mo_flood_110
abbrev t_Mo_flood_108 : List UInt8 := 129 :: t_Mo_flood_109
abbrev t_Mo_flood_107 : List UInt8 := 9 :: t_Mo_flood_108
abbrev t_Mo_flood_104 : List UInt8 := 167 :: 0 :: 4 :: t_Mo_flood_107
abbrev t_Mo_flood_103 : List UInt8 := 47 :: t_Mo_flood_104
abbrev t_Mo_flood_101 : List UInt8 := 21 :: 7 :: t_Mo_flood_103
abbrev t_Mo_flood_98 : List UInt8 := 180 :: 0 :: 125 :: t_Mo_flood_101
abbrev t_Mo_flood_97 : List UInt8 := 42 :: t_Mo_flood_98
abbrev t_Mo_flood_94 : List UInt8 := 153 :: 0 :: 13 :: t_Mo_flood_97
abbrev t_Mo_flood_93 : List UInt8 := 148 :: t_Mo_flood_94
abbrev t_Mo_flood_92 : List UInt8 := 9 :: t_Mo_flood_93
abbrev t_Mo_flood_91 : List UInt8 := 127 :: t_Mo_flood_92
abbrev t_Mo_flood_90 : List UInt8 := 10 :: t_Mo_flood_91
abbrev t_Mo_flood_89 : List UInt8 := 123 :: t_Mo_flood_90
abbrev t_Mo_flood_87 : List UInt8 := 21 :: 7 :: t_Mo_flood_89
abbrev t_Mo_flood_86 : List UInt8 := 32 :: t_Mo_flood_87
abbrev t_Mo_flood_85 : List UInt8 := 32 :: t_Mo_flood_86
abbrev t_Mo_flood_82 : List UInt8 := 162 :: 0 :: 34 :: t_Mo_flood_85
abbrev t_Mo_flood_81 : List UInt8 := 96 :: t_Mo_flood_82
abbrev t_Mo_flood_78 : List UInt8 := 180 :: 1 :: 25 :: t_Mo_flood_81
abbrev t_Mo_flood_77 : List UInt8 := 42 :: t_Mo_flood_78
abbrev t_Mo_flood_74 : List UInt8 := 180 :: 1 :: 22 :: t_Mo_flood_77
abbrev t_Mo_flood_73 : List UInt8 := 42 :: t_Mo_flood_74
abbrev t_Mo_flood_71 : List UInt8 := 21 :: 7 :: t_Mo_flood_73
abbrev t_Mo_flood_69 : List UInt8 := 54 :: 7 :: t_Mo_flood_71
abbrev t_Mo_flood_68 : List UInt8 := 3 :: t_Mo_flood_69
abbrev t_Mo_flood_66 : List UInt8 := 55 :: 5 :: t_Mo_flood_68
abbrev t_Mo_flood_65 : List UInt8 := 32 :: t_Mo_flood_66
abbrev t_Mo_flood_62 : List UInt8 := 153 :: 0 :: 71 :: t_Mo_flood_65
abbrev t_Mo_flood_60 : List UInt8 := 21 :: 4 :: t_Mo_flood_62
abbrev t_Mo_flood_58 : List UInt8 := 54 :: 4 :: t_Mo_flood_60
abbrev t_Mo_flood_57 : List UInt8 := 3 :: t_Mo_flood_58
abbrev t_Mo_flood_54 : List UInt8 := 167 :: 0 :: 4 :: t_Mo_flood_57
abbrev t_Mo_flood_53 : List UInt8 := 4 :: t_Mo_flood_54
abbrev t_Mo_flood_50 : List UInt8 := 153 :: 0 :: 7 :: t_Mo_flood_53
abbrev t_Mo_flood_49 : List UInt8 := 148 :: t_Mo_flood_50
abbrev t_Mo_flood_48 : List UInt8 := 9 :: t_Mo_flood_49
abbrev t_Mo_flood_47 : List UInt8 := 32 :: t_Mo_flood_48
abbrev t_Mo_flood_44 : List UInt8 := 167 :: 255 :: 217 :: t_Mo_flood_47
abbrev t_Mo_flood_41 : List UInt8 := 132 :: 4 :: 1 :: t_Mo_flood_44
abbrev t_Mo_flood_40 : List UInt8 := 65 :: t_Mo_flood_41
abbrev t_Mo_flood_39 : List UInt8 := 129 :: t_Mo_flood_40
abbrev t_Mo_flood_38 : List UInt8 := 9 :: t_Mo_flood_39
abbrev t_Mo_flood_35 : List UInt8 := 167 :: 0 :: 4 :: t_Mo_flood_38
abbrev t_Mo_flood_34 : List UInt8 := 121 :: t_Mo_flood_35
abbrev t_Mo_flood_32 : List UInt8 := 21 :: 4 :: t_Mo_flood_34
abbrev t_Mo_flood_31 : List UInt8 := 10 :: t_Mo_flood_32
abbrev t_Mo_flood_28 : List UInt8 := 160 :: 0 :: 10 :: t_Mo_flood_31
abbrev t_Mo_flood_27 : List UInt8 := 27 :: t_Mo_flood_28
abbrev t_Mo_flood_26 : List UInt8 := 46 :: t_Mo_flood_27
abbrev t_Mo_flood_24 : List UInt8 := 21 :: 4 :: t_Mo_flood_26
abbrev t_Mo_flood_21 : List UInt8 := 180 :: 0 :: 122 :: t_Mo_flood_24
abbrev t_Mo_flood_20 : List UInt8 := 42 :: t_Mo_flood_21
abbrev t_Mo_flood_19 : List UInt8 := 32 :: t_Mo_flood_20
abbrev t_Mo_flood_16 : List UInt8 := 162 :: 0 :: 31 :: t_Mo_flood_19
abbrev t_Mo_flood_15 : List UInt8 := 96 :: t_Mo_flood_16
abbrev t_Mo_flood_12 : List UInt8 := 180 :: 1 :: 25 :: t_Mo_flood_15
abbrev t_Mo_flood_11 : List UInt8 := 42 :: t_Mo_flood_12
abbrev t_Mo_flood_8 : List UInt8 := 180 :: 1 :: 22 :: t_Mo_flood_11
abbrev t_Mo_flood_7 : List UInt8 := 42 :: t_Mo_flood_8
abbrev t_Mo_flood_5 : List UInt8 := 21 :: 4 :: t_Mo_flood_7
abbrev t_Mo_flood_3 : List UInt8 := 54 :: 4 :: t_Mo_flood_5
abbrev t_Mo_flood_2 : List UInt8 := 3 :: t_Mo_flood_3
abbrev t_Mo_flood_1 : List UInt8 := 65 :: t_Mo_flood_2
abbrev t_Mo_flood_0 : List UInt8 := 9 :: t_Mo_flood_1
theorem a_Mo_flood_0 : dk_at b_Mo_flood 0 t_Mo_flood_0 := dk_start (by decide +kernel)
theorem a_Mo_flood_1 : dk_at b_Mo_flood 1 t_Mo_flood_1 := dk_go 1 a_Mo_flood_0 rfl
theorem a_Mo_flood_2 : dk_at b_Mo_flood 2 t_Mo_flood_2 := dk_go 1 a_Mo_flood_1 rfl
theorem a_Mo_flood_3 : dk_at b_Mo_flood 3 t_Mo_flood_3 := dk_go 1 a_Mo_flood_2 rfl
theorem a_Mo_flood_5 : dk_at b_Mo_flood 5 t_Mo_flood_5 := dk_go 2 a_Mo_flood_3 rfl
theorem a_Mo_flood_7 : dk_at b_Mo_flood 7 t_Mo_flood_7 := dk_go 2 a_Mo_flood_5 rfl
theorem a_Mo_flood_8 : dk_at b_Mo_flood 8 t_Mo_flood_8 := dk_go 1 a_Mo_flood_7 rfl
theorem a_Mo_flood_11 : dk_at b_Mo_flood 11 t_Mo_flood_11 := dk_go 3 a_Mo_flood_8 rfl
theorem a_Mo_flood_12 : dk_at b_Mo_flood 12 t_Mo_flood_12 := dk_go 1 a_Mo_flood_11 rfl
theorem a_Mo_flood_15 : dk_at b_Mo_flood 15 t_Mo_flood_15 := dk_go 3 a_Mo_flood_12 rfl
theorem a_Mo_flood_16 : dk_at b_Mo_flood 16 t_Mo_flood_16 := dk_go 1 a_Mo_flood_15 rfl
theorem a_Mo_flood_19 : dk_at b_Mo_flood 19 t_Mo_flood_19 := dk_go 3 a_Mo_flood_16 rfl
theorem a_Mo_flood_20 : dk_at b_Mo_flood 20 t_Mo_flood_20 := dk_go 1 a_Mo_flood_19 rfl
theorem a_Mo_flood_21 : dk_at b_Mo_flood 21 t_Mo_flood_21 := dk_go 1 a_Mo_flood_20 rfl
theorem a_Mo_flood_24 : dk_at b_Mo_flood 24 t_Mo_flood_24 := dk_go 3 a_Mo_flood_21 rfl
theorem a_Mo_flood_26 : dk_at b_Mo_flood 26 t_Mo_flood_26 := dk_go 2 a_Mo_flood_24 rfl
theorem a_Mo_flood_27 : dk_at b_Mo_flood 27 t_Mo_flood_27 := dk_go 1 a_Mo_flood_26 rfl
theorem a_Mo_flood_28 : dk_at b_Mo_flood 28 t_Mo_flood_28 := dk_go 1 a_Mo_flood_27 rfl
theorem a_Mo_flood_31 : dk_at b_Mo_flood 31 t_Mo_flood_31 := dk_go 3 a_Mo_flood_28 rfl
theorem a_Mo_flood_32 : dk_at b_Mo_flood 32 t_Mo_flood_32 := dk_go 1 a_Mo_flood_31 rfl
theorem a_Mo_flood_34 : dk_at b_Mo_flood 34 t_Mo_flood_34 := dk_go 2 a_Mo_flood_32 rfl
theorem a_Mo_flood_35 : dk_at b_Mo_flood 35 t_Mo_flood_35 := dk_go 1 a_Mo_flood_34 rfl
theorem a_Mo_flood_38 : dk_at b_Mo_flood 38 t_Mo_flood_38 := dk_go 3 a_Mo_flood_35 rfl
theorem a_Mo_flood_39 : dk_at b_Mo_flood 39 t_Mo_flood_39 := dk_go 1 a_Mo_flood_38 rfl
theorem a_Mo_flood_40 : dk_at b_Mo_flood 40 t_Mo_flood_40 := dk_go 1 a_Mo_flood_39 rfl
theorem a_Mo_flood_41 : dk_at b_Mo_flood 41 t_Mo_flood_41 := dk_go 1 a_Mo_flood_40 rfl
theorem a_Mo_flood_44 : dk_at b_Mo_flood 44 t_Mo_flood_44 := dk_go 3 a_Mo_flood_41 rfl
theorem a_Mo_flood_47 : dk_at b_Mo_flood 47 t_Mo_flood_47 := dk_go 3 a_Mo_flood_44 rfl
theorem a_Mo_flood_48 : dk_at b_Mo_flood 48 t_Mo_flood_48 := dk_go 1 a_Mo_flood_47 rfl
theorem a_Mo_flood_49 : dk_at b_Mo_flood 49 t_Mo_flood_49 := dk_go 1 a_Mo_flood_48 rfl
theorem a_Mo_flood_50 : dk_at b_Mo_flood 50 t_Mo_flood_50 := dk_go 1 a_Mo_flood_49 rfl
theorem a_Mo_flood_53 : dk_at b_Mo_flood 53 t_Mo_flood_53 := dk_go 3 a_Mo_flood_50 rfl
theorem a_Mo_flood_54 : dk_at b_Mo_flood 54 t_Mo_flood_54 := dk_go 1 a_Mo_flood_53 rfl
theorem a_Mo_flood_57 : dk_at b_Mo_flood 57 t_Mo_flood_57 := dk_go 3 a_Mo_flood_54 rfl
theorem a_Mo_flood_58 : dk_at b_Mo_flood 58 t_Mo_flood_58 := dk_go 1 a_Mo_flood_57 rfl
theorem a_Mo_flood_60 : dk_at b_Mo_flood 60 t_Mo_flood_60 := dk_go 2 a_Mo_flood_58 rfl
theorem a_Mo_flood_62 : dk_at b_Mo_flood 62 t_Mo_flood_62 := dk_go 2 a_Mo_flood_60 rfl
theorem a_Mo_flood_65 : dk_at b_Mo_flood 65 t_Mo_flood_65 := dk_go 3 a_Mo_flood_62 rfl
theorem a_Mo_flood_66 : dk_at b_Mo_flood 66 t_Mo_flood_66 := dk_go 1 a_Mo_flood_65 rfl
theorem a_Mo_flood_68 : dk_at b_Mo_flood 68 t_Mo_flood_68 := dk_go 2 a_Mo_flood_66 rfl
theorem a_Mo_flood_69 : dk_at b_Mo_flood 69 t_Mo_flood_69 := dk_go 1 a_Mo_flood_68 rfl
theorem a_Mo_flood_71 : dk_at b_Mo_flood 71 t_Mo_flood_71 := dk_go 2 a_Mo_flood_69 rfl
theorem a_Mo_flood_73 : dk_at b_Mo_flood 73 t_Mo_flood_73 := dk_go 2 a_Mo_flood_71 rfl
theorem a_Mo_flood_74 : dk_at b_Mo_flood 74 t_Mo_flood_74 := dk_go 1 a_Mo_flood_73 rfl
theorem a_Mo_flood_77 : dk_at b_Mo_flood 77 t_Mo_flood_77 := dk_go 3 a_Mo_flood_74 rfl
theorem a_Mo_flood_78 : dk_at b_Mo_flood 78 t_Mo_flood_78 := dk_go 1 a_Mo_flood_77 rfl
theorem a_Mo_flood_81 : dk_at b_Mo_flood 81 t_Mo_flood_81 := dk_go 3 a_Mo_flood_78 rfl
theorem a_Mo_flood_82 : dk_at b_Mo_flood 82 t_Mo_flood_82 := dk_go 1 a_Mo_flood_81 rfl
theorem a_Mo_flood_85 : dk_at b_Mo_flood 85 t_Mo_flood_85 := dk_go 3 a_Mo_flood_82 rfl
theorem a_Mo_flood_86 : dk_at b_Mo_flood 86 t_Mo_flood_86 := dk_go 1 a_Mo_flood_85 rfl
theorem a_Mo_flood_87 : dk_at b_Mo_flood 87 t_Mo_flood_87 := dk_go 1 a_Mo_flood_86 rfl
theorem a_Mo_flood_89 : dk_at b_Mo_flood 89 t_Mo_flood_89 := dk_go 2 a_Mo_flood_87 rfl
theorem a_Mo_flood_90 : dk_at b_Mo_flood 90 t_Mo_flood_90 := dk_go 1 a_Mo_flood_89 rfl
theorem a_Mo_flood_91 : dk_at b_Mo_flood 91 t_Mo_flood_91 := dk_go 1 a_Mo_flood_90 rfl
theorem a_Mo_flood_92 : dk_at b_Mo_flood 92 t_Mo_flood_92 := dk_go 1 a_Mo_flood_91 rfl
theorem a_Mo_flood_93 : dk_at b_Mo_flood 93 t_Mo_flood_93 := dk_go 1 a_Mo_flood_92 rfl
theorem a_Mo_flood_94 : dk_at b_Mo_flood 94 t_Mo_flood_94 := dk_go 1 a_Mo_flood_93 rfl
theorem a_Mo_flood_97 : dk_at b_Mo_flood 97 t_Mo_flood_97 := dk_go 3 a_Mo_flood_94 rfl
theorem a_Mo_flood_98 : dk_at b_Mo_flood 98 t_Mo_flood_98 := dk_go 1 a_Mo_flood_97 rfl
theorem a_Mo_flood_101 : dk_at b_Mo_flood 101 t_Mo_flood_101 := dk_go 3 a_Mo_flood_98 rfl
theorem a_Mo_flood_103 : dk_at b_Mo_flood 103 t_Mo_flood_103 := dk_go 2 a_Mo_flood_101 rfl
theorem a_Mo_flood_104 : dk_at b_Mo_flood 104 t_Mo_flood_104 := dk_go 1 a_Mo_flood_103 rfl
theorem a_Mo_flood_107 : dk_at b_Mo_flood 107 t_Mo_flood_107 := dk_go 3 a_Mo_flood_104 rfl
theorem a_Mo_flood_108 : dk_at b_Mo_flood 108 t_Mo_flood_108 := dk_go 1 a_Mo_flood_107 rfl
theorem a_Mo_flood_109 : dk_at b_Mo_flood 109 t_Mo_flood_109 := dk_go 1 a_Mo_flood_108 rfl
theorem a_Mo_flood_110 : dk_at b_Mo_flood 110 t_Mo_flood_110 := dk_go 1 a_Mo_flood_109 rfl
theorem a_Mo_flood_113 : dk_at b_Mo_flood 113 t_Mo_flood_113 := dk_go 3 a_Mo_flood_110 rfl
theorem a_Mo_flood_116 : dk_at b_Mo_flood 116 t_Mo_flood_116 := dk_go 3 a_Mo_flood_113 rfl
theorem a_Mo_flood_117 : dk_at b_Mo_flood 117 t_Mo_flood_117 := dk_go 1 a_Mo_flood_116 rfl
theorem a_Mo_flood_119 : dk_at b_Mo_flood 119 t_Mo_flood_119 := dk_go 2 a_Mo_flood_117 rfl
theorem a_Mo_flood_120 : dk_at b_Mo_flood 120 t_Mo_flood_120 := dk_go 1 a_Mo_flood_119 rfl
theorem a_Mo_flood_123 : dk_at b_Mo_flood 123 t_Mo_flood_123 := dk_go 3 a_Mo_flood_120 rfl
theorem a_Mo_flood_124 : dk_at b_Mo_flood 124 t_Mo_flood_124 := dk_go 1 a_Mo_flood_123 rfl
theorem a_Mo_flood_127 : dk_at b_Mo_flood 127 t_Mo_flood_127 := dk_go 3 a_Mo_flood_124 rfl
theorem a_Mo_flood_128 : dk_at b_Mo_flood 128 t_Mo_flood_128 := dk_go 1 a_Mo_flood_127 rfl
theorem a_Mo_flood_130 : dk_at b_Mo_flood 130 t_Mo_flood_130 := dk_go 2 a_Mo_flood_128 rfl
theorem a_Mo_flood_133 : dk_at b_Mo_flood 133 t_Mo_flood_133 := dk_go 3 a_Mo_flood_130 rfl
theorem a_Mo_flood_134 : dk_at b_Mo_flood 134 t_Mo_flood_134 := dk_go 1 a_Mo_flood_133 rfl
theorem d_Mo_flood_0 : decode b_Mo_flood 0 = .ok (.lconst 0, 1) := dk_0 a_Mo_flood_0 (dko_9 _)
theorem d_Mo_flood_1 : decode b_Mo_flood 1 = .ok (.lstore_n 2, 1) := dk_0 a_Mo_flood_1 (dko_65 _)
theorem d_Mo_flood_2 : decode b_Mo_flood 2 = .ok (.iconst 0, 1) := dk_0 a_Mo_flood_2 (dko_3 _)
theorem d_Mo_flood_3 : decode b_Mo_flood 3 = .ok (.istore 4, 2) := dk_U1 a_Mo_flood_3 (dko_54 _) rfl
theorem d_Mo_flood_5 : decode b_Mo_flood 5 = .ok (.iload 4, 2) := dk_U1 a_Mo_flood_5 (dko_21 _) rfl
theorem d_Mo_flood_7 : decode b_Mo_flood 7 = .ok (.aload_n 0, 1) := dk_0 a_Mo_flood_7 (dko_42 _)
theorem d_Mo_flood_8 : decode b_Mo_flood 8 = .ok (.getfield 278, 3) := dk_U2 a_Mo_flood_8 (dko_180 _) rfl
theorem d_Mo_flood_11 : decode b_Mo_flood 11 = .ok (.aload_n 0, 1) := dk_0 a_Mo_flood_11 (dko_42 _)
theorem d_Mo_flood_12 : decode b_Mo_flood 12 = .ok (.getfield 281, 3) := dk_U2 a_Mo_flood_12 (dko_180 _) rfl
theorem d_Mo_flood_15 : decode b_Mo_flood 15 = .ok (.iadd, 1) := dk_0 a_Mo_flood_15 (dko_96 _)
theorem d_Mo_flood_16 : decode b_Mo_flood 16 = .ok (.if_icmp .ge 31, 3) := dk_S2 a_Mo_flood_16 (dko_162 _) (by decide +kernel)
theorem d_Mo_flood_47 : decode b_Mo_flood 47 = .ok (.lload_n 2, 1) := dk_0 a_Mo_flood_47 (dko_32 _)
theorem d_Mo_flood_48 : decode b_Mo_flood 48 = .ok (.lconst 0, 1) := dk_0 a_Mo_flood_48 (dko_9 _)
theorem d_Mo_flood_49 : decode b_Mo_flood 49 = .ok (.lcmp, 1) := dk_0 a_Mo_flood_49 (dko_148 _)
theorem d_Mo_flood_50 : decode b_Mo_flood 50 = .ok (.ifCond .eq 7, 3) := dk_S2 a_Mo_flood_50 (dko_153 _) (by decide +kernel)
theorem d_Mo_flood_57 : decode b_Mo_flood 57 = .ok (.iconst 0, 1) := dk_0 a_Mo_flood_57 (dko_3 _)
theorem d_Mo_flood_58 : decode b_Mo_flood 58 = .ok (.istore 4, 2) := dk_U1 a_Mo_flood_58 (dko_54 _) rfl
theorem d_Mo_flood_60 : decode b_Mo_flood 60 = .ok (.iload 4, 2) := dk_U1 a_Mo_flood_60 (dko_21 _) rfl
theorem d_Mo_flood_62 : decode b_Mo_flood 62 = .ok (.ifCond .eq 71, 3) := dk_S2 a_Mo_flood_62 (dko_153 _) (by decide +kernel)
theorem d_Mo_flood_133 : decode b_Mo_flood 133 = .ok (.lload_n 2, 1) := dk_0 a_Mo_flood_133 (dko_32 _)
theorem d_Mo_flood_134 : decode b_Mo_flood 134 = .ok (.lreturn, 1) := dk_0 a_Mo_flood_134 (dko_173 _)
set_option maxHeartbeats 4000000 in
set_option maxRecDepth 100000 in
theorem c_Mo_flood (l : Launch) (dC : Nat → ClassId) (dI : Nat → Nat → Nat) (cI cB cZ cJ : ClassId) (li : Int32) (oM : Nat) (fm : List Value) (hm_things : fx fm 4 (.int 0)) (hm_pipes : fx fm 11 (.int 0)) (sz : Nat) : Met l y_Mo_flood w_Mo_flood ({ frames := 0, cells := 0, slots := 0, locals := 0 }) (va_Pc [.ref oM, .int li] (PW dC dI cI cB cZ cJ [(oM, .inr (12, fm))] sz)) (va_Ql (fun (r : Int64) (_ : Unit) => r = 0) (fun _ _ => True) (va_A [] sz)) 0 0 (va_A [] sz) := by
  refine Met.ofW (cc := b_Mo_flood) (maxL := 8) (ret := (some .long)) (by decide) rfl ?_
  intro p e s m args below meth c s₁ B hml hv
  obtain ⟨rfl, hsz, hP, hK, hD⟩ := hv
  have hx := B.exec
  have hb := B.bytes
  have hr := B.returns
  have hts := atoms_spec (ws := w_Mo_flood) B.pre
  have hown : s.vm.findClass R_Mo = some m.cls := findClass_of_methodNamed B.named
  have hlocks := B.notSynchronized
  subst hsz
  generalize hAe : va_A [] s.heap.size = A at ⊢
  have hA : ∀ q : Nat, s.heap.size ≤ q → A q := fun q h => by rw [← hAe]; exact Or.inr h
  have hS : va_S A s.heap s.heap [] := va_S.rf
  have hP : va_P (dC, dI) classes [(oM, .inr (12, fm))] s.heap := hP
  have hl := lv_entry ([.ref oM, .int li]) (n := 8) (Nat.le_of_ble_eq_true rfl)
  rw [lg_entry_eq]
  generalize (lg_sl ([.ref oM, .int li]) ++ List.replicate (8 - (lg_sl ([.ref oM, .int li])).length) Slot.unset).toArray = ls at hl ⊢
  have hl : lv_has ls 8 [(0, .ref oM), (1, .int li)] := hl
  refine lv_lconst (v := 0) hx hb d_Mo_flood_0 (by decide) ?_
  refine lv_lstore_n hx hb d_Mo_flood_1 rfl hl (by decide) rfl (fun ls hl => ?_)
  have hl : lv_has ls 8 [(2, .long 0), (0, .ref oM), (1, .int li)] := hl
  refine lv_iconst (v := 0) hx hb d_Mo_flood_2 (by decide) ?_
  refine lv_istore hx hb d_Mo_flood_3 hl (by decide) rfl (fun ls hl => ?_)
  have hl : lv_has ls 8 [(4, .int 0), (2, .long 0), (0, .ref oM), (1, .int li)] := hl
  refine lv_iload hx hb d_Mo_flood_5 (lv_at hl 0 rfl) ?_
  refine lv_aload_n hx hb d_Mo_flood_7 rfl (lv_at hl 2 rfl) ?_
  refine va_get (D := (dC, dI)) (ci := 12) (v := .int 0) (C := R_Mo) (T := F_Mo) (N := 87) hx hb hts (fun w h => List.mem_cons_of_mem _ (in_Mo w h)) hown hK.1 hP 0 rfl rfl 4 (by decide) (hts _ (List.mem_cons_of_mem _ mw_1798)) (fun _ h9 => h9) hm_things d_Mo_flood_8 ?_
  refine lv_aload_n hx hb d_Mo_flood_11 rfl (lv_at hl 2 rfl) ?_
  refine va_get (D := (dC, dI)) (ci := 12) (v := .int 0) (C := R_Mo) (T := F_Mo) (N := 87) hx hb hts (fun w h => List.mem_cons_of_mem _ (in_Mo w h)) hown hK.1 hP 0 rfl rfl 11 (by decide) (hts _ (List.mem_cons_of_mem _ mw_1805)) (fun _ h9 => h9) hm_pipes d_Mo_flood_12 ?_
  refine lv_iadd hx hb d_Mo_flood_15 ?_
  refine lv_topi (fun x0 e0 => ?_)
  obtain rfl : x0 = 0 := e0.trans (by decide)
  refine lv_icmp_ge (tgt := 47) hx hb d_Mo_flood_16 (by decide) (fun _ => ?_) (fun h => absurd (by decide) h)
  refine lv_lload_n hx hb d_Mo_flood_47 rfl (lv_at hl 1 rfl) ?_
  refine lv_lconst (v := 0) hx hb d_Mo_flood_48 (by decide) ?_
  refine W.lcmp hx hb d_Mo_flood_49 ?_
  refine lv_topi (fun x0 e0 => ?_)
  obtain rfl : x0 = 0 := e0.trans (by decide)
  refine lv_if_eq (tgt := 57) hx hb d_Mo_flood_50 (by decide) (fun _ => ?_) (fun h => absurd (by decide) h)
  refine lv_iconst (v := 0) hx hb d_Mo_flood_57 (by decide) ?_
  refine lv_istore hx hb d_Mo_flood_58 hl (by decide) rfl (fun ls hl => ?_)
  have hl : lv_has ls 8 [(4, .int 0), (2, .long 0), (0, .ref oM), (1, .int li)] := hl
  refine lv_iload hx hb d_Mo_flood_60 (lv_at hl 0 rfl) ?_
  refine lv_if_eq (tgt := 133) hx hb d_Mo_flood_62 (by decide) (fun _ => ?_) (fun h => absurd (by decide) h)
  refine lv_lload_n hx hb d_Mo_flood_133 rfl (lv_at hl 1 rfl) ?_
  exact W.lret (v := 0) hx hb hr (fun t ht hW => ⟨⟨_, (), rfl, (rfl), trivial⟩, hS.F ht⟩) hS.2.2 d_Mo_flood_134
abbrev t_Mo_isCalm_139 : List UInt8 := 172 :: []
abbrev t_Mo_isCalm_138 : List UInt8 := 4 :: t_Mo_isCalm_139
abbrev t_Mo_isCalm_135 : List UInt8 := 167 :: 255 :: 152 :: t_Mo_isCalm_138
abbrev t_Mo_isCalm_132 : List UInt8 := 132 :: 2 :: 1 :: t_Mo_isCalm_135
abbrev t_Mo_isCalm_129 : List UInt8 := 167 :: 255 :: 173 :: t_Mo_isCalm_132
abbrev t_Mo_isCalm_126 : List UInt8 := 132 :: 3 :: 1 :: t_Mo_isCalm_129
abbrev t_Mo_isCalm_123 : List UInt8 := 167 :: 255 :: 190 :: t_Mo_isCalm_126
abbrev t_Mo_isCalm_120 : List UInt8 := 132 :: 4 :: 1 :: t_Mo_isCalm_123
abbrev t_Mo_isCalm_119 : List UInt8 := 172 :: t_Mo_isCalm_120
abbrev t_Mo_isCalm_118 : List UInt8 := 3 :: t_Mo_isCalm_119
abbrev t_Mo_isCalm_115 : List UInt8 := 181 :: 1 :: 100 :: t_Mo_isCalm_118
abbrev t_Mo_isCalm_113 : List UInt8 := 21 :: 4 :: t_Mo_isCalm_115
abbrev t_Mo_isCalm_112 : List UInt8 := 42 :: t_Mo_isCalm_113
abbrev t_Mo_isCalm_109 : List UInt8 := 181 :: 1 :: 97 :: t_Mo_isCalm_112
abbrev t_Mo_isCalm_108 : List UInt8 := 29 :: t_Mo_isCalm_109
abbrev t_Mo_isCalm_107 : List UInt8 := 42 :: t_Mo_isCalm_108
abbrev t_Mo_isCalm_104 : List UInt8 := 181 :: 1 :: 94 :: t_Mo_isCalm_107
abbrev t_Mo_isCalm_103 : List UInt8 := 28 :: t_Mo_isCalm_104
abbrev t_Mo_isCalm_102 : List UInt8 := 42 :: t_Mo_isCalm_103
abbrev t_Mo_isCalm_99 : List UInt8 := 181 :: 1 :: 91 :: t_Mo_isCalm_102
abbrev t_Mo_isCalm_98 : List UInt8 := 27 :: t_Mo_isCalm_99
abbrev t_Mo_isCalm_97 : List UInt8 := 42 :: t_Mo_isCalm_98
abbrev t_Mo_isCalm_94 : List UInt8 := 154 :: 0 :: 26 :: t_Mo_isCalm_97
abbrev t_Mo_isCalm_91 : List UInt8 := 182 :: 1 :: 87 :: t_Mo_isCalm_94
abbrev t_Mo_isCalm_89 : List UInt8 := 21 :: 4 :: t_Mo_isCalm_91
abbrev t_Mo_isCalm_88 : List UInt8 := 29 :: t_Mo_isCalm_89
abbrev t_Mo_isCalm_87 : List UInt8 := 42 :: t_Mo_isCalm_88
abbrev t_Mo_isCalm_84 : List UInt8 := 153 :: 0 :: 36 :: t_Mo_isCalm_87
abbrev t_Mo_isCalm_83 : List UInt8 := 148 :: t_Mo_isCalm_84
abbrev t_Mo_isCalm_82 : List UInt8 := 9 :: t_Mo_isCalm_83
abbrev t_Mo_isCalm_81 : List UInt8 := 127 :: t_Mo_isCalm_82
abbrev t_Mo_isCalm_80 : List UInt8 := 10 :: t_Mo_isCalm_81
abbrev t_Mo_isCalm_79 : List UInt8 := 123 :: t_Mo_isCalm_80
abbrev t_Mo_isCalm_78 : List UInt8 := 28 :: t_Mo_isCalm_79
abbrev t_Mo_isCalm_77 : List UInt8 := 127 :: t_Mo_isCalm_78
abbrev t_Mo_isCalm_76 : List UInt8 := 47 :: t_Mo_isCalm_77
abbrev t_Mo_isCalm_74 : List UInt8 := 21 :: 4 :: t_Mo_isCalm_76
abbrev t_Mo_isCalm_71 : List UInt8 := 180 :: 0 :: 129 :: t_Mo_isCalm_74
abbrev t_Mo_isCalm_70 : List UInt8 := 42 :: t_Mo_isCalm_71
abbrev t_Mo_isCalm_69 : List UInt8 := 47 :: t_Mo_isCalm_70
abbrev t_Mo_isCalm_68 : List UInt8 := 29 :: t_Mo_isCalm_69
abbrev t_Mo_isCalm_65 : List UInt8 := 180 :: 0 :: 129 :: t_Mo_isCalm_68
abbrev t_Mo_isCalm_64 : List UInt8 := 42 :: t_Mo_isCalm_65
abbrev t_Mo_isCalm_61 : List UInt8 := 162 :: 0 :: 65 :: t_Mo_isCalm_64
abbrev t_Mo_isCalm_59 : List UInt8 := 16 :: 16 :: t_Mo_isCalm_61
abbrev t_Mo_isCalm_57 : List UInt8 := 21 :: 4 :: t_Mo_isCalm_59
abbrev t_Mo_isCalm_55 : List UInt8 := 54 :: 4 :: t_Mo_isCalm_57
abbrev t_Mo_isCalm_54 : List UInt8 := 96 :: t_Mo_isCalm_55
abbrev t_Mo_isCalm_53 : List UInt8 := 4 :: t_Mo_isCalm_54
abbrev t_Mo_isCalm_52 : List UInt8 := 29 :: t_Mo_isCalm_53
abbrev t_Mo_isCalm_49 : List UInt8 := 162 :: 0 :: 83 :: t_Mo_isCalm_52
abbrev t_Mo_isCalm_47 : List UInt8 := 16 :: 16 :: t_Mo_isCalm_49
abbrev t_Mo_isCalm_46 : List UInt8 := 29 :: t_Mo_isCalm_47
abbrev t_Mo_isCalm_45 : List UInt8 := 62 :: t_Mo_isCalm_46
abbrev t_Mo_isCalm_44 : List UInt8 := 4 :: t_Mo_isCalm_45
abbrev t_Mo_isCalm_41 : List UInt8 := 162 :: 0 :: 97 :: t_Mo_isCalm_44
abbrev t_Mo_isCalm_40 : List UInt8 := 96 :: t_Mo_isCalm_41
abbrev t_Mo_isCalm_37 : List UInt8 := 180 :: 1 :: 25 :: t_Mo_isCalm_40
abbrev t_Mo_isCalm_36 : List UInt8 := 42 :: t_Mo_isCalm_37
abbrev t_Mo_isCalm_33 : List UInt8 := 180 :: 1 :: 22 :: t_Mo_isCalm_36
abbrev t_Mo_isCalm_32 : List UInt8 := 42 :: t_Mo_isCalm_33
abbrev t_Mo_isCalm_31 : List UInt8 := 28 :: t_Mo_isCalm_32
abbrev t_Mo_isCalm_30 : List UInt8 := 61 :: t_Mo_isCalm_31
abbrev t_Mo_isCalm_29 : List UInt8 := 3 :: t_Mo_isCalm_30
abbrev t_Mo_isCalm_26 : List UInt8 := 167 :: 255 :: 236 :: t_Mo_isCalm_29
abbrev t_Mo_isCalm_23 : List UInt8 := 132 :: 2 :: 1 :: t_Mo_isCalm_26
abbrev t_Mo_isCalm_22 : List UInt8 := 80 :: t_Mo_isCalm_23
abbrev t_Mo_isCalm_19 : List UInt8 := 182 :: 1 :: 83 :: t_Mo_isCalm_22
abbrev t_Mo_isCalm_18 : List UInt8 := 28 :: t_Mo_isCalm_19
abbrev t_Mo_isCalm_17 : List UInt8 := 42 :: t_Mo_isCalm_18
abbrev t_Mo_isCalm_16 : List UInt8 := 28 :: t_Mo_isCalm_17
abbrev t_Mo_isCalm_13 : List UInt8 := 180 :: 0 :: 129 :: t_Mo_isCalm_16
abbrev t_Mo_isCalm_12 : List UInt8 := 42 :: t_Mo_isCalm_13
abbrev t_Mo_isCalm_9 : List UInt8 := 162 :: 0 :: 20 :: t_Mo_isCalm_12
abbrev t_Mo_isCalm_7 : List UInt8 := 16 :: 16 :: t_Mo_isCalm_9
abbrev t_Mo_isCalm_6 : List UInt8 := 28 :: t_Mo_isCalm_7
abbrev t_Mo_isCalm_5 : List UInt8 := 61 :: t_Mo_isCalm_6
abbrev t_Mo_isCalm_4 : List UInt8 := 4 :: t_Mo_isCalm_5
abbrev t_Mo_isCalm_1 : List UInt8 := 182 :: 1 :: 80 :: t_Mo_isCalm_4
abbrev t_Mo_isCalm_0 : List UInt8 := 42 :: t_Mo_isCalm_1
theorem a_Mo_isCalm_0 : dk_at b_Mo_isCalm 0 t_Mo_isCalm_0 := dk_start (by decide +kernel)
theorem a_Mo_isCalm_1 : dk_at b_Mo_isCalm 1 t_Mo_isCalm_1 := dk_go 1 a_Mo_isCalm_0 rfl
theorem a_Mo_isCalm_4 : dk_at b_Mo_isCalm 4 t_Mo_isCalm_4 := dk_go 3 a_Mo_isCalm_1 rfl
theorem a_Mo_isCalm_5 : dk_at b_Mo_isCalm 5 t_Mo_isCalm_5 := dk_go 1 a_Mo_isCalm_4 rfl
theorem a_Mo_isCalm_6 : dk_at b_Mo_isCalm 6 t_Mo_isCalm_6 := dk_go 1 a_Mo_isCalm_5 rfl
theorem a_Mo_isCalm_7 : dk_at b_Mo_isCalm 7 t_Mo_isCalm_7 := dk_go 1 a_Mo_isCalm_6 rfl
theorem a_Mo_isCalm_9 : dk_at b_Mo_isCalm 9 t_Mo_isCalm_9 := dk_go 2 a_Mo_isCalm_7 rfl
theorem a_Mo_isCalm_12 : dk_at b_Mo_isCalm 12 t_Mo_isCalm_12 := dk_go 3 a_Mo_isCalm_9 rfl
theorem a_Mo_isCalm_13 : dk_at b_Mo_isCalm 13 t_Mo_isCalm_13 := dk_go 1 a_Mo_isCalm_12 rfl
theorem a_Mo_isCalm_16 : dk_at b_Mo_isCalm 16 t_Mo_isCalm_16 := dk_go 3 a_Mo_isCalm_13 rfl
theorem a_Mo_isCalm_17 : dk_at b_Mo_isCalm 17 t_Mo_isCalm_17 := dk_go 1 a_Mo_isCalm_16 rfl
theorem a_Mo_isCalm_18 : dk_at b_Mo_isCalm 18 t_Mo_isCalm_18 := dk_go 1 a_Mo_isCalm_17 rfl
theorem a_Mo_isCalm_19 : dk_at b_Mo_isCalm 19 t_Mo_isCalm_19 := dk_go 1 a_Mo_isCalm_18 rfl
theorem a_Mo_isCalm_22 : dk_at b_Mo_isCalm 22 t_Mo_isCalm_22 := dk_go 3 a_Mo_isCalm_19 rfl
theorem a_Mo_isCalm_23 : dk_at b_Mo_isCalm 23 t_Mo_isCalm_23 := dk_go 1 a_Mo_isCalm_22 rfl
theorem a_Mo_isCalm_26 : dk_at b_Mo_isCalm 26 t_Mo_isCalm_26 := dk_go 3 a_Mo_isCalm_23 rfl
theorem a_Mo_isCalm_29 : dk_at b_Mo_isCalm 29 t_Mo_isCalm_29 := dk_go 3 a_Mo_isCalm_26 rfl
theorem a_Mo_isCalm_30 : dk_at b_Mo_isCalm 30 t_Mo_isCalm_30 := dk_go 1 a_Mo_isCalm_29 rfl
theorem a_Mo_isCalm_31 : dk_at b_Mo_isCalm 31 t_Mo_isCalm_31 := dk_go 1 a_Mo_isCalm_30 rfl
theorem a_Mo_isCalm_32 : dk_at b_Mo_isCalm 32 t_Mo_isCalm_32 := dk_go 1 a_Mo_isCalm_31 rfl
theorem a_Mo_isCalm_33 : dk_at b_Mo_isCalm 33 t_Mo_isCalm_33 := dk_go 1 a_Mo_isCalm_32 rfl
theorem a_Mo_isCalm_36 : dk_at b_Mo_isCalm 36 t_Mo_isCalm_36 := dk_go 3 a_Mo_isCalm_33 rfl
theorem a_Mo_isCalm_37 : dk_at b_Mo_isCalm 37 t_Mo_isCalm_37 := dk_go 1 a_Mo_isCalm_36 rfl
theorem a_Mo_isCalm_40 : dk_at b_Mo_isCalm 40 t_Mo_isCalm_40 := dk_go 3 a_Mo_isCalm_37 rfl
theorem a_Mo_isCalm_41 : dk_at b_Mo_isCalm 41 t_Mo_isCalm_41 := dk_go 1 a_Mo_isCalm_40 rfl
theorem a_Mo_isCalm_44 : dk_at b_Mo_isCalm 44 t_Mo_isCalm_44 := dk_go 3 a_Mo_isCalm_41 rfl
theorem a_Mo_isCalm_45 : dk_at b_Mo_isCalm 45 t_Mo_isCalm_45 := dk_go 1 a_Mo_isCalm_44 rfl
theorem a_Mo_isCalm_46 : dk_at b_Mo_isCalm 46 t_Mo_isCalm_46 := dk_go 1 a_Mo_isCalm_45 rfl
theorem a_Mo_isCalm_47 : dk_at b_Mo_isCalm 47 t_Mo_isCalm_47 := dk_go 1 a_Mo_isCalm_46 rfl
theorem a_Mo_isCalm_49 : dk_at b_Mo_isCalm 49 t_Mo_isCalm_49 := dk_go 2 a_Mo_isCalm_47 rfl
theorem a_Mo_isCalm_52 : dk_at b_Mo_isCalm 52 t_Mo_isCalm_52 := dk_go 3 a_Mo_isCalm_49 rfl
theorem a_Mo_isCalm_53 : dk_at b_Mo_isCalm 53 t_Mo_isCalm_53 := dk_go 1 a_Mo_isCalm_52 rfl
theorem a_Mo_isCalm_54 : dk_at b_Mo_isCalm 54 t_Mo_isCalm_54 := dk_go 1 a_Mo_isCalm_53 rfl
theorem a_Mo_isCalm_55 : dk_at b_Mo_isCalm 55 t_Mo_isCalm_55 := dk_go 1 a_Mo_isCalm_54 rfl
theorem a_Mo_isCalm_57 : dk_at b_Mo_isCalm 57 t_Mo_isCalm_57 := dk_go 2 a_Mo_isCalm_55 rfl
theorem a_Mo_isCalm_59 : dk_at b_Mo_isCalm 59 t_Mo_isCalm_59 := dk_go 2 a_Mo_isCalm_57 rfl
theorem a_Mo_isCalm_61 : dk_at b_Mo_isCalm 61 t_Mo_isCalm_61 := dk_go 2 a_Mo_isCalm_59 rfl
theorem a_Mo_isCalm_64 : dk_at b_Mo_isCalm 64 t_Mo_isCalm_64 := dk_go 3 a_Mo_isCalm_61 rfl
theorem a_Mo_isCalm_65 : dk_at b_Mo_isCalm 65 t_Mo_isCalm_65 := dk_go 1 a_Mo_isCalm_64 rfl
theorem a_Mo_isCalm_68 : dk_at b_Mo_isCalm 68 t_Mo_isCalm_68 := dk_go 3 a_Mo_isCalm_65 rfl
theorem a_Mo_isCalm_69 : dk_at b_Mo_isCalm 69 t_Mo_isCalm_69 := dk_go 1 a_Mo_isCalm_68 rfl
theorem a_Mo_isCalm_70 : dk_at b_Mo_isCalm 70 t_Mo_isCalm_70 := dk_go 1 a_Mo_isCalm_69 rfl
theorem a_Mo_isCalm_71 : dk_at b_Mo_isCalm 71 t_Mo_isCalm_71 := dk_go 1 a_Mo_isCalm_70 rfl
theorem a_Mo_isCalm_74 : dk_at b_Mo_isCalm 74 t_Mo_isCalm_74 := dk_go 3 a_Mo_isCalm_71 rfl
theorem a_Mo_isCalm_76 : dk_at b_Mo_isCalm 76 t_Mo_isCalm_76 := dk_go 2 a_Mo_isCalm_74 rfl
theorem a_Mo_isCalm_77 : dk_at b_Mo_isCalm 77 t_Mo_isCalm_77 := dk_go 1 a_Mo_isCalm_76 rfl
theorem a_Mo_isCalm_78 : dk_at b_Mo_isCalm 78 t_Mo_isCalm_78 := dk_go 1 a_Mo_isCalm_77 rfl
theorem a_Mo_isCalm_79 : dk_at b_Mo_isCalm 79 t_Mo_isCalm_79 := dk_go 1 a_Mo_isCalm_78 rfl
theorem a_Mo_isCalm_80 : dk_at b_Mo_isCalm 80 t_Mo_isCalm_80 := dk_go 1 a_Mo_isCalm_79 rfl
theorem a_Mo_isCalm_81 : dk_at b_Mo_isCalm 81 t_Mo_isCalm_81 := dk_go 1 a_Mo_isCalm_80 rfl
theorem a_Mo_isCalm_82 : dk_at b_Mo_isCalm 82 t_Mo_isCalm_82 := dk_go 1 a_Mo_isCalm_81 rfl
theorem a_Mo_isCalm_83 : dk_at b_Mo_isCalm 83 t_Mo_isCalm_83 := dk_go 1 a_Mo_isCalm_82 rfl
theorem a_Mo_isCalm_84 : dk_at b_Mo_isCalm 84 t_Mo_isCalm_84 := dk_go 1 a_Mo_isCalm_83 rfl
theorem a_Mo_isCalm_87 : dk_at b_Mo_isCalm 87 t_Mo_isCalm_87 := dk_go 3 a_Mo_isCalm_84 rfl
theorem a_Mo_isCalm_88 : dk_at b_Mo_isCalm 88 t_Mo_isCalm_88 := dk_go 1 a_Mo_isCalm_87 rfl
theorem a_Mo_isCalm_89 : dk_at b_Mo_isCalm 89 t_Mo_isCalm_89 := dk_go 1 a_Mo_isCalm_88 rfl
theorem a_Mo_isCalm_91 : dk_at b_Mo_isCalm 91 t_Mo_isCalm_91 := dk_go 2 a_Mo_isCalm_89 rfl
theorem a_Mo_isCalm_94 : dk_at b_Mo_isCalm 94 t_Mo_isCalm_94 := dk_go 3 a_Mo_isCalm_91 rfl
theorem a_Mo_isCalm_97 : dk_at b_Mo_isCalm 97 t_Mo_isCalm_97 := dk_go 3 a_Mo_isCalm_94 rfl
theorem a_Mo_isCalm_98 : dk_at b_Mo_isCalm 98 t_Mo_isCalm_98 := dk_go 1 a_Mo_isCalm_97 rfl
theorem a_Mo_isCalm_99 : dk_at b_Mo_isCalm 99 t_Mo_isCalm_99 := dk_go 1 a_Mo_isCalm_98 rfl
theorem a_Mo_isCalm_102 : dk_at b_Mo_isCalm 102 t_Mo_isCalm_102 := dk_go 3 a_Mo_isCalm_99 rfl
theorem a_Mo_isCalm_103 : dk_at b_Mo_isCalm 103 t_Mo_isCalm_103 := dk_go 1 a_Mo_isCalm_102 rfl
theorem a_Mo_isCalm_104 : dk_at b_Mo_isCalm 104 t_Mo_isCalm_104 := dk_go 1 a_Mo_isCalm_103 rfl
theorem a_Mo_isCalm_107 : dk_at b_Mo_isCalm 107 t_Mo_isCalm_107 := dk_go 3 a_Mo_isCalm_104 rfl
theorem a_Mo_isCalm_108 : dk_at b_Mo_isCalm 108 t_Mo_isCalm_108 := dk_go 1 a_Mo_isCalm_107 rfl
theorem a_Mo_isCalm_109 : dk_at b_Mo_isCalm 109 t_Mo_isCalm_109 := dk_go 1 a_Mo_isCalm_108 rfl
theorem a_Mo_isCalm_112 : dk_at b_Mo_isCalm 112 t_Mo_isCalm_112 := dk_go 3 a_Mo_isCalm_109 rfl
theorem a_Mo_isCalm_113 : dk_at b_Mo_isCalm 113 t_Mo_isCalm_113 := dk_go 1 a_Mo_isCalm_112 rfl
theorem a_Mo_isCalm_115 : dk_at b_Mo_isCalm 115 t_Mo_isCalm_115 := dk_go 2 a_Mo_isCalm_113 rfl
theorem a_Mo_isCalm_118 : dk_at b_Mo_isCalm 118 t_Mo_isCalm_118 := dk_go 3 a_Mo_isCalm_115 rfl
theorem a_Mo_isCalm_119 : dk_at b_Mo_isCalm 119 t_Mo_isCalm_119 := dk_go 1 a_Mo_isCalm_118 rfl
theorem a_Mo_isCalm_120 : dk_at b_Mo_isCalm 120 t_Mo_isCalm_120 := dk_go 1 a_Mo_isCalm_119 rfl
theorem a_Mo_isCalm_123 : dk_at b_Mo_isCalm 123 t_Mo_isCalm_123 := dk_go 3 a_Mo_isCalm_120 rfl
theorem a_Mo_isCalm_126 : dk_at b_Mo_isCalm 126 t_Mo_isCalm_126 := dk_go 3 a_Mo_isCalm_123 rfl
theorem a_Mo_isCalm_129 : dk_at b_Mo_isCalm 129 t_Mo_isCalm_129 := dk_go 3 a_Mo_isCalm_126 rfl
theorem a_Mo_isCalm_132 : dk_at b_Mo_isCalm 132 t_Mo_isCalm_132 := dk_go 3 a_Mo_isCalm_129 rfl
theorem a_Mo_isCalm_135 : dk_at b_Mo_isCalm 135 t_Mo_isCalm_135 := dk_go 3 a_Mo_isCalm_132 rfl
theorem a_Mo_isCalm_138 : dk_at b_Mo_isCalm 138 t_Mo_isCalm_138 := dk_go 3 a_Mo_isCalm_135 rfl
theorem a_Mo_isCalm_139 : dk_at b_Mo_isCalm 139 t_Mo_isCalm_139 := dk_go 1 a_Mo_isCalm_138 rfl
theorem d_Mo_isCalm_0 : decode b_Mo_isCalm 0 = .ok (.aload_n 0, 1) := dk_0 a_Mo_isCalm_0 (dko_42 _)
theorem d_Mo_isCalm_1 : decode b_Mo_isCalm 1 = .ok (.invokevirtual 336, 3) := dk_U2 a_Mo_isCalm_1 (dko_182 _) rfl
theorem d_Mo_isCalm_4 : decode b_Mo_isCalm 4 = .ok (.iconst 1, 1) := dk_0 a_Mo_isCalm_4 (dko_4 _)
theorem d_Mo_isCalm_5 : decode b_Mo_isCalm 5 = .ok (.istore_n 2, 1) := dk_0 a_Mo_isCalm_5 (dko_61 _)
theorem d_Mo_isCalm_6 : decode b_Mo_isCalm 6 = .ok (.iload_n 2, 1) := dk_0 a_Mo_isCalm_6 (dko_28 _)
theorem d_Mo_isCalm_7 : decode b_Mo_isCalm 7 = .ok (.bipush 16, 2) := dk_S1 a_Mo_isCalm_7 (dko_16 _) (by decide +kernel)
theorem d_Mo_isCalm_9 : decode b_Mo_isCalm 9 = .ok (.if_icmp .ge 20, 3) := dk_S2 a_Mo_isCalm_9 (dko_162 _) (by decide +kernel)
theorem d_Mo_isCalm_12 : decode b_Mo_isCalm 12 = .ok (.aload_n 0, 1) := dk_0 a_Mo_isCalm_12 (dko_42 _)
theorem d_Mo_isCalm_13 : decode b_Mo_isCalm 13 = .ok (.getfield 129, 3) := dk_U2 a_Mo_isCalm_13 (dko_180 _) rfl
theorem d_Mo_isCalm_16 : decode b_Mo_isCalm 16 = .ok (.iload_n 2, 1) := dk_0 a_Mo_isCalm_16 (dko_28 _)
theorem d_Mo_isCalm_17 : decode b_Mo_isCalm 17 = .ok (.aload_n 0, 1) := dk_0 a_Mo_isCalm_17 (dko_42 _)
theorem d_Mo_isCalm_18 : decode b_Mo_isCalm 18 = .ok (.iload_n 2, 1) := dk_0 a_Mo_isCalm_18 (dko_28 _)
theorem d_Mo_isCalm_19 : decode b_Mo_isCalm 19 = .ok (.invokevirtual 339, 3) := dk_U2 a_Mo_isCalm_19 (dko_182 _) rfl
theorem d_Mo_isCalm_22 : decode b_Mo_isCalm 22 = .ok (.lastore, 1) := dk_0 a_Mo_isCalm_22 (dko_80 _)
theorem d_Mo_isCalm_23 : decode b_Mo_isCalm 23 = .ok (.iinc 2 1, 3) := dk_US a_Mo_isCalm_23 (dko_132 _) (by decide +kernel)
theorem d_Mo_isCalm_26 : decode b_Mo_isCalm 26 = .ok (.goto (-20), 3) := dk_S2 a_Mo_isCalm_26 (dko_167 _) (by decide +kernel)
theorem d_Mo_isCalm_29 : decode b_Mo_isCalm 29 = .ok (.iconst 0, 1) := dk_0 a_Mo_isCalm_29 (dko_3 _)
theorem d_Mo_isCalm_30 : decode b_Mo_isCalm 30 = .ok (.istore_n 2, 1) := dk_0 a_Mo_isCalm_30 (dko_61 _)
theorem d_Mo_isCalm_31 : decode b_Mo_isCalm 31 = .ok (.iload_n 2, 1) := dk_0 a_Mo_isCalm_31 (dko_28 _)
theorem d_Mo_isCalm_32 : decode b_Mo_isCalm 32 = .ok (.aload_n 0, 1) := dk_0 a_Mo_isCalm_32 (dko_42 _)
theorem d_Mo_isCalm_33 : decode b_Mo_isCalm 33 = .ok (.getfield 278, 3) := dk_U2 a_Mo_isCalm_33 (dko_180 _) rfl
theorem d_Mo_isCalm_36 : decode b_Mo_isCalm 36 = .ok (.aload_n 0, 1) := dk_0 a_Mo_isCalm_36 (dko_42 _)
theorem d_Mo_isCalm_37 : decode b_Mo_isCalm 37 = .ok (.getfield 281, 3) := dk_U2 a_Mo_isCalm_37 (dko_180 _) rfl
theorem d_Mo_isCalm_40 : decode b_Mo_isCalm 40 = .ok (.iadd, 1) := dk_0 a_Mo_isCalm_40 (dko_96 _)
theorem d_Mo_isCalm_41 : decode b_Mo_isCalm 41 = .ok (.if_icmp .ge 97, 3) := dk_S2 a_Mo_isCalm_41 (dko_162 _) (by decide +kernel)
theorem d_Mo_isCalm_138 : decode b_Mo_isCalm 138 = .ok (.iconst 1, 1) := dk_0 a_Mo_isCalm_138 (dko_4 _)
theorem d_Mo_isCalm_139 : decode b_Mo_isCalm 139 = .ok (.ireturn, 1) := dk_0 a_Mo_isCalm_139 (dko_172 _)
set_option maxHeartbeats 4000000 in
set_option maxRecDepth 100000 in
theorem c_Mo_isCalm (l : Launch) (dC : Nat → ClassId) (dI : Nat → Nat → Nat) (cI cB cZ cJ : ClassId) (fa : Int32) (oM : Nat) (am_floods : Nat) (fm : List Value) (hm_things : fx fm 4 (.int 0)) (hm_pipes : fx fm 11 (.int 0)) (hm_floods : fx fm 44 (.ref am_floods)) (sz : Nat) : Met l y_Mo_isCalm w_Mo_isCalm ({ frames := 1, cells := 0, slots := 0, locals := 27 }) (va_Pc [.ref oM, .int fa] (PW dC dI cI cB cZ cJ [(oM, .inr (12, fm)), (am_floods, .inl (cJ, 16, .inr (.inl (fun _ => 0))))] sz)) (va_Qi (fun (r : Int32) (_ : Unit) => r = 1) (fun (_ : Unit) (t : State) => ∃ (n_am_floods : Nat → Int64), fx fm 4 (.int 0) ∧ fx fm 11 (.int 0) ∧ fx fm 44 (.ref am_floods) ∧ va_P (dC, dI) classes [(oM, .inr (12, fm)), (am_floods, .inl (cJ, 16, .inr (.inl n_am_floods)))] t.heap ∧ va_D (va_A [(oM, .inr (12, fm)), (am_floods, .inl (cJ, 16, .inr (.inl (fun _ => 0))))] sz) [(oM, .inr (12, fm)), (am_floods, .inl (cJ, 16, .inr (.inl n_am_floods)))]) (va_A [(oM, .inr (12, fm)), (am_floods, .inl (cJ, 16, .inr (.inl (fun _ => 0))))] sz)) 0 0 (va_A [(oM, .inr (12, fm)), (am_floods, .inl (cJ, 16, .inr (.inl (fun _ => 0))))] sz) := by
  refine Met.ofW (cc := b_Mo_isCalm) (maxL := 5) (ret := (some .boolean)) (by decide) rfl ?_
  intro p e s m args below meth c s₁ B hml hv
  obtain ⟨rfl, hsz, hP, hK, hD⟩ := hv
  have hx := B.exec
  have hb := B.bytes
  have hr := B.returns
  have hts := atoms_spec (ws := w_Mo_isCalm) B.pre
  have hown : s.vm.findClass R_Mo = some m.cls := findClass_of_methodNamed B.named
  have hlocks := B.notSynchronized
  subst hsz
  have hD := hD.self (sz := s.heap.size)
  generalize hAe : va_A [(oM, .inr (12, fm)), (am_floods, .inl (cJ, 16, .inr (.inl (fun _ => 0))))] s.heap.size = A at hD ⊢
  have hA : ∀ q : Nat, s.heap.size ≤ q → A q := fun q h => by rw [← hAe]; exact Or.inr h
  have hS : va_S A s.heap s.heap [] := va_S.rf
  have hP : va_P (dC, dI) classes [(oM, .inr (12, fm)), (am_floods, .inl (cJ, 16, .inr (.inl (fun _ => 0))))] s.heap := hP
  have hl := lv_entry ([.ref oM, .int fa]) (n := 5) (Nat.le_of_ble_eq_true rfl)
  rw [lg_entry_eq]
  generalize (lg_sl ([.ref oM, .int fa]) ++ List.replicate (5 - (lg_sl ([.ref oM, .int fa])).length) Slot.unset).toArray = ls at hl ⊢
  have hl : lv_has ls 5 [(0, .ref oM), (1, .int fa)] := hl
  refine lv_aload_n hx hb d_Mo_isCalm_0 rfl (lv_at hl 0 rfl) ?_
  have hPc := hP.sub (ws' := [(oM, .inr (12, fm))]) [0] rfl
  have hDc := hD.sub (ws' := [(oM, .inr (12, fm))]) [0] (by decide) rfl
  have hFc := pu_free hS hA
  refine va_callv (va_runV (C := R_Mo) (As := []) (rest := []) ⟨hx, hb, hml, hown, hts⟩ (c_Mo_join l dC dI cI cB cZ cJ oM fm hm_things hm_pipes s.heap.size) (cwV 0 hts (tb_V mw_2389 mw_2391 sl_150 mw_18 mw_2392) rfl rfl rfl ⟨rfl, by decide +kernel, by decide +kernel, by decide +kernel⟩ ⟨(Nat.le_of_ble_eq_true rfl), (Nat.le_of_ble_eq_true rfl)⟩) ⟨pw_blind, va_recv (q := (R_Mo, F_Mo, 87)) hK.1 hP (ci := 12) (q0 := 0) rfl rfl, pw_pre hPc hK hDc⟩ rfl rfl hl.1 rfl (lv_room (Nat.le_of_ble_eq_true rfl)) d_Mo_isCalm_1 ⟨(Nat.le_of_ble_eq_true rfl), (Nat.le_of_ble_eq_true rfl)⟩) hS (fun q _ h => hFc q h) hFc (fun u t H locs ht hvm hw hB hz1 hk1 hS => ?_)
  have hP := pu_kept hP hk1
  refine lv_iconst (v := 1) hx hb d_Mo_isCalm_4 (by decide) ?_
  refine lv_istore_n hx hb d_Mo_isCalm_5 rfl hl (by decide) rfl (fun ls hl => ?_)
  have hl : lv_has ls 5 [(2, .int 1), (0, .ref oM), (1, .int fa)] := hl
  refine lv_iload_n hx hb d_Mo_isCalm_6 rfl (lv_at hl 0 rfl) ?_
  refine lv_bipush (v := 16) hx hb d_Mo_isCalm_7 (by decide) ?_
  refine lv_icmp_ge (tgt := 29) hx hb d_Mo_isCalm_9 (by decide) (fun h => absurd h (by decide)) (fun _ => ?_)
  refine lv_aload_n hx hb d_Mo_isCalm_12 rfl (lv_at hl 1 rfl) ?_
  refine va_get (D := (dC, dI)) (ci := 12) (v := .ref am_floods) (C := R_Mo) (T := F_Mo) (N := 87) hx hb hts (fun w h => List.mem_cons_of_mem _ (in_Mo w h)) hown hK.1 hP 0 rfl rfl 44 (by decide) (hts _ (List.mem_cons_of_mem _ mw_1838)) (fun _ h9 => h9) hm_floods d_Mo_isCalm_13 ?_
  refine lv_iload_n hx hb d_Mo_isCalm_16 rfl (lv_at hl 0 rfl) ?_
  refine lv_aload_n hx hb d_Mo_isCalm_17 rfl (lv_at hl 1 rfl) ?_
  refine lv_iload_n hx hb d_Mo_isCalm_18 rfl (lv_at hl 0 rfl) ?_
  have hPc := hP.sub (ws' := [(oM, .inr (12, fm))]) [0] rfl
  have hDc := hD.sub (ws' := [(oM, .inr (12, fm))]) [0] (by decide) rfl
  have hFc := pu_free hS hA
  refine va_calll (va_runV (C := R_Mo) (As := [.int 1]) (rest := [.int 1, .ref am_floods]) ⟨hx, hb, hml, hown, hts⟩ (c_Mo_flood l dC dI cI cB cZ cJ 1 oM fm hm_things hm_pipes H.size) (cwV 1 hts (tb_V mw_2396 mw_2398 sl_151 mw_18 mw_2399) rfl rfl rfl ⟨rfl, by decide +kernel, by decide +kernel, by decide +kernel⟩ ⟨(Nat.le_of_ble_eq_true rfl), (Nat.le_of_ble_eq_true rfl)⟩) ⟨pw_blind, va_recv (q := (R_Mo, F_Mo, 87)) hK.1 hP (ci := 12) (q0 := 0) rfl rfl, pw_pre hPc hK hDc⟩ rfl rfl hl.1 rfl (lv_room (Nat.le_of_ble_eq_true rfl)) d_Mo_isCalm_19 ⟨(Nat.le_of_ble_eq_true rfl), (Nat.le_of_ble_eq_true rfl)⟩) hS (fun q _ h => hFc q h) hFc (fun r u t H locs ht hvm hw hB hz1 hk1 hS => ?_)
  have hP := pu_kept hP hk1
  obtain rfl : r = 0 := hw
  refine va_last hx hb hK.1 hP hD hS 1 3 rfl rfl (vp_in_iff.mpr (by decide)) d_Mo_isCalm_22 (fun H locs hP hD hS => ?_)
  have hP : va_P (dC, dI) classes [(oM, .inr (12, fm)), (am_floods, .inl (cJ, 16, .inr (.inl ((vp_updL (fun _ => 0) (1 : Int32).toNatClampNeg 0)))))] H := hP
  have hD : va_D A [(oM, .inr (12, fm)), (am_floods, .inl (cJ, 16, .inr (.inl ((vp_updL (fun _ => 0) (1 : Int32).toNatClampNeg 0)))))] := hD
  generalize (vp_updL (fun _ => 0) (1 : Int32).toNatClampNeg 0) = f22_1 at hP hD
  refine lv_iinc (k := 0) (v := 2) hx hb d_Mo_isCalm_23 hl rfl (by first | rfl | decide | exact nI_1 i | exact pv_1 j hj) (by decide) rfl (fun ls hl => ?_)
  have hl : lv_has ls 5 [(2, .int 2), (0, .ref oM), (1, .int fa)] := hl
  refine lv_goto (tgt := 6) hx hb d_Mo_isCalm_26 (by decide) ?_
  refine lv_iload_n hx hb d_Mo_isCalm_6 rfl (lv_at hl 0 rfl) ?_
  refine lv_bipush (v := 16) hx hb d_Mo_isCalm_7 (by decide) ?_
  refine lv_icmp_ge (tgt := 29) hx hb d_Mo_isCalm_9 (by decide) (fun h => absurd h (by decide)) (fun _ => ?_)
  refine lv_aload_n hx hb d_Mo_isCalm_12 rfl (lv_at hl 1 rfl) ?_
  refine va_get (D := (dC, dI)) (ci := 12) (v := .ref am_floods) (C := R_Mo) (T := F_Mo) (N := 87) hx hb hts (fun w h => List.mem_cons_of_mem _ (in_Mo w h)) hown hK.1 hP 0 rfl rfl 44 (by decide) (hts _ (List.mem_cons_of_mem _ mw_1838)) (fun _ h9 => h9) hm_floods d_Mo_isCalm_13 ?_
  refine lv_iload_n hx hb d_Mo_isCalm_16 rfl (lv_at hl 0 rfl) ?_
  refine lv_aload_n hx hb d_Mo_isCalm_17 rfl (lv_at hl 1 rfl) ?_
  refine lv_iload_n hx hb d_Mo_isCalm_18 rfl (lv_at hl 0 rfl) ?_
  have hPc := hP.sub (ws' := [(oM, .inr (12, fm))]) [0] rfl
  have hDc := hD.sub (ws' := [(oM, .inr (12, fm))]) [0] (by decide) rfl
  have hFc := pu_free hS hA
  refine va_calll (va_runV (C := R_Mo) (As := [.int 2]) (rest := [.int 2, .ref am_floods]) ⟨hx, hb, hml, hown, hts⟩ (c_Mo_flood l dC dI cI cB cZ cJ 2 oM fm hm_things hm_pipes H.size) (cwV 1 hts (tb_V mw_2396 mw_2398 sl_151 mw_18 mw_2399) rfl rfl rfl ⟨rfl, by decide +kernel, by decide +kernel, by decide +kernel⟩ ⟨(Nat.le_of_ble_eq_true rfl), (Nat.le_of_ble_eq_true rfl)⟩) ⟨pw_blind, va_recv (q := (R_Mo, F_Mo, 87)) hK.1 hP (ci := 12) (q0 := 0) rfl rfl, pw_pre hPc hK hDc⟩ rfl rfl hl.1 rfl (lv_room (Nat.le_of_ble_eq_true rfl)) d_Mo_isCalm_19 ⟨(Nat.le_of_ble_eq_true rfl), (Nat.le_of_ble_eq_true rfl)⟩) hS (fun q _ h => hFc q h) hFc (fun r u t H locs ht hvm hw hB hz1 hk1 hS => ?_)
  have hP := pu_kept hP hk1
  obtain rfl : r = 0 := hw
  refine va_last hx hb hK.1 hP hD hS 1 3 rfl rfl (vp_in_iff.mpr (by decide)) d_Mo_isCalm_22 (fun H locs hP hD hS => ?_)
  have hP : va_P (dC, dI) classes [(oM, .inr (12, fm)), (am_floods, .inl (cJ, 16, .inr (.inl ((vp_updL f22_1 (2 : Int32).toNatClampNeg 0)))))] H := hP
  have hD : va_D A [(oM, .inr (12, fm)), (am_floods, .inl (cJ, 16, .inr (.inl ((vp_updL f22_1 (2 : Int32).toNatClampNeg 0)))))] := hD
  generalize (vp_updL f22_1 (2 : Int32).toNatClampNeg 0) = f22_2 at hP hD
  refine lv_iinc (k := 0) (v := 3) hx hb d_Mo_isCalm_23 hl rfl (by first | rfl | decide | exact nI_1 i | exact pv_1 j hj) (by decide) rfl (fun ls hl => ?_)
  have hl : lv_has ls 5 [(2, .int 3), (0, .ref oM), (1, .int fa)] := hl
  refine lv_goto (tgt := 6) hx hb d_Mo_isCalm_26 (by decide) ?_
  refine lv_iload_n hx hb d_Mo_isCalm_6 rfl (lv_at hl 0 rfl) ?_
  refine lv_bipush (v := 16) hx hb d_Mo_isCalm_7 (by decide) ?_
  refine lv_icmp_ge (tgt := 29) hx hb d_Mo_isCalm_9 (by decide) (fun h => absurd h (by decide)) (fun _ => ?_)
  refine lv_aload_n hx hb d_Mo_isCalm_12 rfl (lv_at hl 1 rfl) ?_
  refine va_get (D := (dC, dI)) (ci := 12) (v := .ref am_floods) (C := R_Mo) (T := F_Mo) (N := 87) hx hb hts (fun w h => List.mem_cons_of_mem _ (in_Mo w h)) hown hK.1 hP 0 rfl rfl 44 (by decide) (hts _ (List.mem_cons_of_mem _ mw_1838)) (fun _ h9 => h9) hm_floods d_Mo_isCalm_13 ?_
  refine lv_iload_n hx hb d_Mo_isCalm_16 rfl (lv_at hl 0 rfl) ?_
  refine lv_aload_n hx hb d_Mo_isCalm_17 rfl (lv_at hl 1 rfl) ?_
  refine lv_iload_n hx hb d_Mo_isCalm_18 rfl (lv_at hl 0 rfl) ?_
  have hPc := hP.sub (ws' := [(oM, .inr (12, fm))]) [0] rfl
  have hDc := hD.sub (ws' := [(oM, .inr (12, fm))]) [0] (by decide) rfl
  have hFc := pu_free hS hA
  refine va_calll (va_runV (C := R_Mo) (As := [.int 3]) (rest := [.int 3, .ref am_floods]) ⟨hx, hb, hml, hown, hts⟩ (c_Mo_flood l dC dI cI cB cZ cJ 3 oM fm hm_things hm_pipes H.size) (cwV 1 hts (tb_V mw_2396 mw_2398 sl_151 mw_18 mw_2399) rfl rfl rfl ⟨rfl, by decide +kernel, by decide +kernel, by decide +kernel⟩ ⟨(Nat.le_of_ble_eq_true rfl), (Nat.le_of_ble_eq_true rfl)⟩) ⟨pw_blind, va_recv (q := (R_Mo, F_Mo, 87)) hK.1 hP (ci := 12) (q0 := 0) rfl rfl, pw_pre hPc hK hDc⟩ rfl rfl hl.1 rfl (lv_room (Nat.le_of_ble_eq_true rfl)) d_Mo_isCalm_19 ⟨(Nat.le_of_ble_eq_true rfl), (Nat.le_of_ble_eq_true rfl)⟩) hS (fun q _ h => hFc q h) hFc (fun r u t H locs ht hvm hw hB hz1 hk1 hS => ?_)
  have hP := pu_kept hP hk1
  obtain rfl : r = 0 := hw
  refine va_last hx hb hK.1 hP hD hS 1 3 rfl rfl (vp_in_iff.mpr (by decide)) d_Mo_isCalm_22 (fun H locs hP hD hS => ?_)
  have hP : va_P (dC, dI) classes [(oM, .inr (12, fm)), (am_floods, .inl (cJ, 16, .inr (.inl ((vp_updL f22_2 (3 : Int32).toNatClampNeg 0)))))] H := hP
  have hD : va_D A [(oM, .inr (12, fm)), (am_floods, .inl (cJ, 16, .inr (.inl ((vp_updL f22_2 (3 : Int32).toNatClampNeg 0)))))] := hD
  generalize (vp_updL f22_2 (3 : Int32).toNatClampNeg 0) = f22_3 at hP hD
  refine lv_iinc (k := 0) (v := 4) hx hb d_Mo_isCalm_23 hl rfl (by first | rfl | decide | exact nI_1 i | exact pv_1 j hj) (by decide) rfl (fun ls hl => ?_)
  have hl : lv_has ls 5 [(2, .int 4), (0, .ref oM), (1, .int fa)] := hl
  refine lv_goto (tgt := 6) hx hb d_Mo_isCalm_26 (by decide) ?_
  refine lv_iload_n hx hb d_Mo_isCalm_6 rfl (lv_at hl 0 rfl) ?_
  refine lv_bipush (v := 16) hx hb d_Mo_isCalm_7 (by decide) ?_
  refine lv_icmp_ge (tgt := 29) hx hb d_Mo_isCalm_9 (by decide) (fun h => absurd h (by decide)) (fun _ => ?_)
  refine lv_aload_n hx hb d_Mo_isCalm_12 rfl (lv_at hl 1 rfl) ?_
  refine va_get (D := (dC, dI)) (ci := 12) (v := .ref am_floods) (C := R_Mo) (T := F_Mo) (N := 87) hx hb hts (fun w h => List.mem_cons_of_mem _ (in_Mo w h)) hown hK.1 hP 0 rfl rfl 44 (by decide) (hts _ (List.mem_cons_of_mem _ mw_1838)) (fun _ h9 => h9) hm_floods d_Mo_isCalm_13 ?_
  refine lv_iload_n hx hb d_Mo_isCalm_16 rfl (lv_at hl 0 rfl) ?_
  refine lv_aload_n hx hb d_Mo_isCalm_17 rfl (lv_at hl 1 rfl) ?_
  refine lv_iload_n hx hb d_Mo_isCalm_18 rfl (lv_at hl 0 rfl) ?_
  have hPc := hP.sub (ws' := [(oM, .inr (12, fm))]) [0] rfl
  have hDc := hD.sub (ws' := [(oM, .inr (12, fm))]) [0] (by decide) rfl
  have hFc := pu_free hS hA
  refine va_calll (va_runV (C := R_Mo) (As := [.int 4]) (rest := [.int 4, .ref am_floods]) ⟨hx, hb, hml, hown, hts⟩ (c_Mo_flood l dC dI cI cB cZ cJ 4 oM fm hm_things hm_pipes H.size) (cwV 1 hts (tb_V mw_2396 mw_2398 sl_151 mw_18 mw_2399) rfl rfl rfl ⟨rfl, by decide +kernel, by decide +kernel, by decide +kernel⟩ ⟨(Nat.le_of_ble_eq_true rfl), (Nat.le_of_ble_eq_true rfl)⟩) ⟨pw_blind, va_recv (q := (R_Mo, F_Mo, 87)) hK.1 hP (ci := 12) (q0 := 0) rfl rfl, pw_pre hPc hK hDc⟩ rfl rfl hl.1 rfl (lv_room (Nat.le_of_ble_eq_true rfl)) d_Mo_isCalm_19 ⟨(Nat.le_of_ble_eq_true rfl), (Nat.le_of_ble_eq_true rfl)⟩) hS (fun q _ h => hFc q h) hFc (fun r u t H locs ht hvm hw hB hz1 hk1 hS => ?_)
  have hP := pu_kept hP hk1
  obtain rfl : r = 0 := hw
  refine va_last hx hb hK.1 hP hD hS 1 3 rfl rfl (vp_in_iff.mpr (by decide)) d_Mo_isCalm_22 (fun H locs hP hD hS => ?_)
  have hP : va_P (dC, dI) classes [(oM, .inr (12, fm)), (am_floods, .inl (cJ, 16, .inr (.inl ((vp_updL f22_3 (4 : Int32).toNatClampNeg 0)))))] H := hP
  have hD : va_D A [(oM, .inr (12, fm)), (am_floods, .inl (cJ, 16, .inr (.inl ((vp_updL f22_3 (4 : Int32).toNatClampNeg 0)))))] := hD
  generalize (vp_updL f22_3 (4 : Int32).toNatClampNeg 0) = f22_4 at hP hD
  refine lv_iinc (k := 0) (v := 5) hx hb d_Mo_isCalm_23 hl rfl (by first | rfl | decide | exact nI_1 i | exact pv_1 j hj) (by decide) rfl (fun ls hl => ?_)
  have hl : lv_has ls 5 [(2, .int 5), (0, .ref oM), (1, .int fa)] := hl
  refine lv_goto (tgt := 6) hx hb d_Mo_isCalm_26 (by decide) ?_
  refine lv_iload_n hx hb d_Mo_isCalm_6 rfl (lv_at hl 0 rfl) ?_
  refine lv_bipush (v := 16) hx hb d_Mo_isCalm_7 (by decide) ?_
  refine lv_icmp_ge (tgt := 29) hx hb d_Mo_isCalm_9 (by decide) (fun h => absurd h (by decide)) (fun _ => ?_)
  refine lv_aload_n hx hb d_Mo_isCalm_12 rfl (lv_at hl 1 rfl) ?_
  refine va_get (D := (dC, dI)) (ci := 12) (v := .ref am_floods) (C := R_Mo) (T := F_Mo) (N := 87) hx hb hts (fun w h => List.mem_cons_of_mem _ (in_Mo w h)) hown hK.1 hP 0 rfl rfl 44 (by decide) (hts _ (List.mem_cons_of_mem _ mw_1838)) (fun _ h9 => h9) hm_floods d_Mo_isCalm_13 ?_
  refine lv_iload_n hx hb d_Mo_isCalm_16 rfl (lv_at hl 0 rfl) ?_
  refine lv_aload_n hx hb d_Mo_isCalm_17 rfl (lv_at hl 1 rfl) ?_
  refine lv_iload_n hx hb d_Mo_isCalm_18 rfl (lv_at hl 0 rfl) ?_
  have hPc := hP.sub (ws' := [(oM, .inr (12, fm))]) [0] rfl
  have hDc := hD.sub (ws' := [(oM, .inr (12, fm))]) [0] (by decide) rfl
  have hFc := pu_free hS hA
  refine va_calll (va_runV (C := R_Mo) (As := [.int 5]) (rest := [.int 5, .ref am_floods]) ⟨hx, hb, hml, hown, hts⟩ (c_Mo_flood l dC dI cI cB cZ cJ 5 oM fm hm_things hm_pipes H.size) (cwV 1 hts (tb_V mw_2396 mw_2398 sl_151 mw_18 mw_2399) rfl rfl rfl ⟨rfl, by decide +kernel, by decide +kernel, by decide +kernel⟩ ⟨(Nat.le_of_ble_eq_true rfl), (Nat.le_of_ble_eq_true rfl)⟩) ⟨pw_blind, va_recv (q := (R_Mo, F_Mo, 87)) hK.1 hP (ci := 12) (q0 := 0) rfl rfl, pw_pre hPc hK hDc⟩ rfl rfl hl.1 rfl (lv_room (Nat.le_of_ble_eq_true rfl)) d_Mo_isCalm_19 ⟨(Nat.le_of_ble_eq_true rfl), (Nat.le_of_ble_eq_true rfl)⟩) hS (fun q _ h => hFc q h) hFc (fun r u t H locs ht hvm hw hB hz1 hk1 hS => ?_)
  have hP := pu_kept hP hk1
  obtain rfl : r = 0 := hw
  refine va_last hx hb hK.1 hP hD hS 1 3 rfl rfl (vp_in_iff.mpr (by decide)) d_Mo_isCalm_22 (fun H locs hP hD hS => ?_)
  have hP : va_P (dC, dI) classes [(oM, .inr (12, fm)), (am_floods, .inl (cJ, 16, .inr (.inl ((vp_updL f22_4 (5 : Int32).toNatClampNeg 0)))))] H := hP
  have hD : va_D A [(oM, .inr (12, fm)), (am_floods, .inl (cJ, 16, .inr (.inl ((vp_updL f22_4 (5 : Int32).toNatClampNeg 0)))))] := hD
  generalize (vp_updL f22_4 (5 : Int32).toNatClampNeg 0) = f22_5 at hP hD
  refine lv_iinc (k := 0) (v := 6) hx hb d_Mo_isCalm_23 hl rfl (by first | rfl | decide | exact nI_1 i | exact pv_1 j hj) (by decide) rfl (fun ls hl => ?_)
  have hl : lv_has ls 5 [(2, .int 6), (0, .ref oM), (1, .int fa)] := hl
  refine lv_goto (tgt := 6) hx hb d_Mo_isCalm_26 (by decide) ?_
  refine lv_iload_n hx hb d_Mo_isCalm_6 rfl (lv_at hl 0 rfl) ?_
  refine lv_bipush (v := 16) hx hb d_Mo_isCalm_7 (by decide) ?_
  refine lv_icmp_ge (tgt := 29) hx hb d_Mo_isCalm_9 (by decide) (fun h => absurd h (by decide)) (fun _ => ?_)
  refine lv_aload_n hx hb d_Mo_isCalm_12 rfl (lv_at hl 1 rfl) ?_
  refine va_get (D := (dC, dI)) (ci := 12) (v := .ref am_floods) (C := R_Mo) (T := F_Mo) (N := 87) hx hb hts (fun w h => List.mem_cons_of_mem _ (in_Mo w h)) hown hK.1 hP 0 rfl rfl 44 (by decide) (hts _ (List.mem_cons_of_mem _ mw_1838)) (fun _ h9 => h9) hm_floods d_Mo_isCalm_13 ?_
  refine lv_iload_n hx hb d_Mo_isCalm_16 rfl (lv_at hl 0 rfl) ?_
  refine lv_aload_n hx hb d_Mo_isCalm_17 rfl (lv_at hl 1 rfl) ?_
  refine lv_iload_n hx hb d_Mo_isCalm_18 rfl (lv_at hl 0 rfl) ?_
  have hPc := hP.sub (ws' := [(oM, .inr (12, fm))]) [0] rfl
  have hDc := hD.sub (ws' := [(oM, .inr (12, fm))]) [0] (by decide) rfl
  have hFc := pu_free hS hA
  refine va_calll (va_runV (C := R_Mo) (As := [.int 6]) (rest := [.int 6, .ref am_floods]) ⟨hx, hb, hml, hown, hts⟩ (c_Mo_flood l dC dI cI cB cZ cJ 6 oM fm hm_things hm_pipes H.size) (cwV 1 hts (tb_V mw_2396 mw_2398 sl_151 mw_18 mw_2399) rfl rfl rfl ⟨rfl, by decide +kernel, by decide +kernel, by decide +kernel⟩ ⟨(Nat.le_of_ble_eq_true rfl), (Nat.le_of_ble_eq_true rfl)⟩) ⟨pw_blind, va_recv (q := (R_Mo, F_Mo, 87)) hK.1 hP (ci := 12) (q0 := 0) rfl rfl, pw_pre hPc hK hDc⟩ rfl rfl hl.1 rfl (lv_room (Nat.le_of_ble_eq_true rfl)) d_Mo_isCalm_19 ⟨(Nat.le_of_ble_eq_true rfl), (Nat.le_of_ble_eq_true rfl)⟩) hS (fun q _ h => hFc q h) hFc (fun r u t H locs ht hvm hw hB hz1 hk1 hS => ?_)
  have hP := pu_kept hP hk1
  obtain rfl : r = 0 := hw
  refine va_last hx hb hK.1 hP hD hS 1 3 rfl rfl (vp_in_iff.mpr (by decide)) d_Mo_isCalm_22 (fun H locs hP hD hS => ?_)
  have hP : va_P (dC, dI) classes [(oM, .inr (12, fm)), (am_floods, .inl (cJ, 16, .inr (.inl ((vp_updL f22_5 (6 : Int32).toNatClampNeg 0)))))] H := hP
  have hD : va_D A [(oM, .inr (12, fm)), (am_floods, .inl (cJ, 16, .inr (.inl ((vp_updL f22_5 (6 : Int32).toNatClampNeg 0)))))] := hD
  generalize (vp_updL f22_5 (6 : Int32).toNatClampNeg 0) = f22_6 at hP hD
  refine lv_iinc (k := 0) (v := 7) hx hb d_Mo_isCalm_23 hl rfl (by first | rfl | decide | exact nI_1 i | exact pv_1 j hj) (by decide) rfl (fun ls hl => ?_)
  have hl : lv_has ls 5 [(2, .int 7), (0, .ref oM), (1, .int fa)] := hl
  refine lv_goto (tgt := 6) hx hb d_Mo_isCalm_26 (by decide) ?_
  refine lv_iload_n hx hb d_Mo_isCalm_6 rfl (lv_at hl 0 rfl) ?_
  refine lv_bipush (v := 16) hx hb d_Mo_isCalm_7 (by decide) ?_
  refine lv_icmp_ge (tgt := 29) hx hb d_Mo_isCalm_9 (by decide) (fun h => absurd h (by decide)) (fun _ => ?_)
  refine lv_aload_n hx hb d_Mo_isCalm_12 rfl (lv_at hl 1 rfl) ?_
  refine va_get (D := (dC, dI)) (ci := 12) (v := .ref am_floods) (C := R_Mo) (T := F_Mo) (N := 87) hx hb hts (fun w h => List.mem_cons_of_mem _ (in_Mo w h)) hown hK.1 hP 0 rfl rfl 44 (by decide) (hts _ (List.mem_cons_of_mem _ mw_1838)) (fun _ h9 => h9) hm_floods d_Mo_isCalm_13 ?_
  refine lv_iload_n hx hb d_Mo_isCalm_16 rfl (lv_at hl 0 rfl) ?_
  refine lv_aload_n hx hb d_Mo_isCalm_17 rfl (lv_at hl 1 rfl) ?_
  refine lv_iload_n hx hb d_Mo_isCalm_18 rfl (lv_at hl 0 rfl) ?_
  have hPc := hP.sub (ws' := [(oM, .inr (12, fm))]) [0] rfl
  have hDc := hD.sub (ws' := [(oM, .inr (12, fm))]) [0] (by decide) rfl
  have hFc := pu_free hS hA
  refine va_calll (va_runV (C := R_Mo) (As := [.int 7]) (rest := [.int 7, .ref am_floods]) ⟨hx, hb, hml, hown, hts⟩ (c_Mo_flood l dC dI cI cB cZ cJ 7 oM fm hm_things hm_pipes H.size) (cwV 1 hts (tb_V mw_2396 mw_2398 sl_151 mw_18 mw_2399) rfl rfl rfl ⟨rfl, by decide +kernel, by decide +kernel, by decide +kernel⟩ ⟨(Nat.le_of_ble_eq_true rfl), (Nat.le_of_ble_eq_true rfl)⟩) ⟨pw_blind, va_recv (q := (R_Mo, F_Mo, 87)) hK.1 hP (ci := 12) (q0 := 0) rfl rfl, pw_pre hPc hK hDc⟩ rfl rfl hl.1 rfl (lv_room (Nat.le_of_ble_eq_true rfl)) d_Mo_isCalm_19 ⟨(Nat.le_of_ble_eq_true rfl), (Nat.le_of_ble_eq_true rfl)⟩) hS (fun q _ h => hFc q h) hFc (fun r u t H locs ht hvm hw hB hz1 hk1 hS => ?_)
  have hP := pu_kept hP hk1
  obtain rfl : r = 0 := hw
  refine va_last hx hb hK.1 hP hD hS 1 3 rfl rfl (vp_in_iff.mpr (by decide)) d_Mo_isCalm_22 (fun H locs hP hD hS => ?_)
  have hP : va_P (dC, dI) classes [(oM, .inr (12, fm)), (am_floods, .inl (cJ, 16, .inr (.inl ((vp_updL f22_6 (7 : Int32).toNatClampNeg 0)))))] H := hP
  have hD : va_D A [(oM, .inr (12, fm)), (am_floods, .inl (cJ, 16, .inr (.inl ((vp_updL f22_6 (7 : Int32).toNatClampNeg 0)))))] := hD
  generalize (vp_updL f22_6 (7 : Int32).toNatClampNeg 0) = f22_7 at hP hD
  refine lv_iinc (k := 0) (v := 8) hx hb d_Mo_isCalm_23 hl rfl (by first | rfl | decide | exact nI_1 i | exact pv_1 j hj) (by decide) rfl (fun ls hl => ?_)
  have hl : lv_has ls 5 [(2, .int 8), (0, .ref oM), (1, .int fa)] := hl
  refine lv_goto (tgt := 6) hx hb d_Mo_isCalm_26 (by decide) ?_
  refine lv_iload_n hx hb d_Mo_isCalm_6 rfl (lv_at hl 0 rfl) ?_
  refine lv_bipush (v := 16) hx hb d_Mo_isCalm_7 (by decide) ?_
  refine lv_icmp_ge (tgt := 29) hx hb d_Mo_isCalm_9 (by decide) (fun h => absurd h (by decide)) (fun _ => ?_)
  refine lv_aload_n hx hb d_Mo_isCalm_12 rfl (lv_at hl 1 rfl) ?_
  refine va_get (D := (dC, dI)) (ci := 12) (v := .ref am_floods) (C := R_Mo) (T := F_Mo) (N := 87) hx hb hts (fun w h => List.mem_cons_of_mem _ (in_Mo w h)) hown hK.1 hP 0 rfl rfl 44 (by decide) (hts _ (List.mem_cons_of_mem _ mw_1838)) (fun _ h9 => h9) hm_floods d_Mo_isCalm_13 ?_
  refine lv_iload_n hx hb d_Mo_isCalm_16 rfl (lv_at hl 0 rfl) ?_
  refine lv_aload_n hx hb d_Mo_isCalm_17 rfl (lv_at hl 1 rfl) ?_
  refine lv_iload_n hx hb d_Mo_isCalm_18 rfl (lv_at hl 0 rfl) ?_
  have hPc := hP.sub (ws' := [(oM, .inr (12, fm))]) [0] rfl
  have hDc := hD.sub (ws' := [(oM, .inr (12, fm))]) [0] (by decide) rfl
  have hFc := pu_free hS hA
  refine va_calll (va_runV (C := R_Mo) (As := [.int 8]) (rest := [.int 8, .ref am_floods]) ⟨hx, hb, hml, hown, hts⟩ (c_Mo_flood l dC dI cI cB cZ cJ 8 oM fm hm_things hm_pipes H.size) (cwV 1 hts (tb_V mw_2396 mw_2398 sl_151 mw_18 mw_2399) rfl rfl rfl ⟨rfl, by decide +kernel, by decide +kernel, by decide +kernel⟩ ⟨(Nat.le_of_ble_eq_true rfl), (Nat.le_of_ble_eq_true rfl)⟩) ⟨pw_blind, va_recv (q := (R_Mo, F_Mo, 87)) hK.1 hP (ci := 12) (q0 := 0) rfl rfl, pw_pre hPc hK hDc⟩ rfl rfl hl.1 rfl (lv_room (Nat.le_of_ble_eq_true rfl)) d_Mo_isCalm_19 ⟨(Nat.le_of_ble_eq_true rfl), (Nat.le_of_ble_eq_true rfl)⟩) hS (fun q _ h => hFc q h) hFc (fun r u t H locs ht hvm hw hB hz1 hk1 hS => ?_)
  have hP := pu_kept hP hk1
  obtain rfl : r = 0 := hw
  refine va_last hx hb hK.1 hP hD hS 1 3 rfl rfl (vp_in_iff.mpr (by decide)) d_Mo_isCalm_22 (fun H locs hP hD hS => ?_)
  have hP : va_P (dC, dI) classes [(oM, .inr (12, fm)), (am_floods, .inl (cJ, 16, .inr (.inl ((vp_updL f22_7 (8 : Int32).toNatClampNeg 0)))))] H := hP
  have hD : va_D A [(oM, .inr (12, fm)), (am_floods, .inl (cJ, 16, .inr (.inl ((vp_updL f22_7 (8 : Int32).toNatClampNeg 0)))))] := hD
  generalize (vp_updL f22_7 (8 : Int32).toNatClampNeg 0) = f22_8 at hP hD
  refine lv_iinc (k := 0) (v := 9) hx hb d_Mo_isCalm_23 hl rfl (by first | rfl | decide | exact nI_1 i | exact pv_1 j hj) (by decide) rfl (fun ls hl => ?_)
  have hl : lv_has ls 5 [(2, .int 9), (0, .ref oM), (1, .int fa)] := hl
  refine lv_goto (tgt := 6) hx hb d_Mo_isCalm_26 (by decide) ?_
  refine lv_iload_n hx hb d_Mo_isCalm_6 rfl (lv_at hl 0 rfl) ?_
  refine lv_bipush (v := 16) hx hb d_Mo_isCalm_7 (by decide) ?_
  refine lv_icmp_ge (tgt := 29) hx hb d_Mo_isCalm_9 (by decide) (fun h => absurd h (by decide)) (fun _ => ?_)
  refine lv_aload_n hx hb d_Mo_isCalm_12 rfl (lv_at hl 1 rfl) ?_
  refine va_get (D := (dC, dI)) (ci := 12) (v := .ref am_floods) (C := R_Mo) (T := F_Mo) (N := 87) hx hb hts (fun w h => List.mem_cons_of_mem _ (in_Mo w h)) hown hK.1 hP 0 rfl rfl 44 (by decide) (hts _ (List.mem_cons_of_mem _ mw_1838)) (fun _ h9 => h9) hm_floods d_Mo_isCalm_13 ?_
  refine lv_iload_n hx hb d_Mo_isCalm_16 rfl (lv_at hl 0 rfl) ?_
  refine lv_aload_n hx hb d_Mo_isCalm_17 rfl (lv_at hl 1 rfl) ?_
  refine lv_iload_n hx hb d_Mo_isCalm_18 rfl (lv_at hl 0 rfl) ?_
  have hPc := hP.sub (ws' := [(oM, .inr (12, fm))]) [0] rfl
  have hDc := hD.sub (ws' := [(oM, .inr (12, fm))]) [0] (by decide) rfl
  have hFc := pu_free hS hA
  refine va_calll (va_runV (C := R_Mo) (As := [.int 9]) (rest := [.int 9, .ref am_floods]) ⟨hx, hb, hml, hown, hts⟩ (c_Mo_flood l dC dI cI cB cZ cJ 9 oM fm hm_things hm_pipes H.size) (cwV 1 hts (tb_V mw_2396 mw_2398 sl_151 mw_18 mw_2399) rfl rfl rfl ⟨rfl, by decide +kernel, by decide +kernel, by decide +kernel⟩ ⟨(Nat.le_of_ble_eq_true rfl), (Nat.le_of_ble_eq_true rfl)⟩) ⟨pw_blind, va_recv (q := (R_Mo, F_Mo, 87)) hK.1 hP (ci := 12) (q0 := 0) rfl rfl, pw_pre hPc hK hDc⟩ rfl rfl hl.1 rfl (lv_room (Nat.le_of_ble_eq_true rfl)) d_Mo_isCalm_19 ⟨(Nat.le_of_ble_eq_true rfl), (Nat.le_of_ble_eq_true rfl)⟩) hS (fun q _ h => hFc q h) hFc (fun r u t H locs ht hvm hw hB hz1 hk1 hS => ?_)
  have hP := pu_kept hP hk1
  obtain rfl : r = 0 := hw
  refine va_last hx hb hK.1 hP hD hS 1 3 rfl rfl (vp_in_iff.mpr (by decide)) d_Mo_isCalm_22 (fun H locs hP hD hS => ?_)
  have hP : va_P (dC, dI) classes [(oM, .inr (12, fm)), (am_floods, .inl (cJ, 16, .inr (.inl ((vp_updL f22_8 (9 : Int32).toNatClampNeg 0)))))] H := hP
  have hD : va_D A [(oM, .inr (12, fm)), (am_floods, .inl (cJ, 16, .inr (.inl ((vp_updL f22_8 (9 : Int32).toNatClampNeg 0)))))] := hD
  generalize (vp_updL f22_8 (9 : Int32).toNatClampNeg 0) = f22_9 at hP hD
  refine lv_iinc (k := 0) (v := 10) hx hb d_Mo_isCalm_23 hl rfl (by first | rfl | decide | exact nI_1 i | exact pv_1 j hj) (by decide) rfl (fun ls hl => ?_)
  have hl : lv_has ls 5 [(2, .int 10), (0, .ref oM), (1, .int fa)] := hl
  refine lv_goto (tgt := 6) hx hb d_Mo_isCalm_26 (by decide) ?_
  refine lv_iload_n hx hb d_Mo_isCalm_6 rfl (lv_at hl 0 rfl) ?_
  refine lv_bipush (v := 16) hx hb d_Mo_isCalm_7 (by decide) ?_
  refine lv_icmp_ge (tgt := 29) hx hb d_Mo_isCalm_9 (by decide) (fun h => absurd h (by decide)) (fun _ => ?_)
  refine lv_aload_n hx hb d_Mo_isCalm_12 rfl (lv_at hl 1 rfl) ?_
  refine va_get (D := (dC, dI)) (ci := 12) (v := .ref am_floods) (C := R_Mo) (T := F_Mo) (N := 87) hx hb hts (fun w h => List.mem_cons_of_mem _ (in_Mo w h)) hown hK.1 hP 0 rfl rfl 44 (by decide) (hts _ (List.mem_cons_of_mem _ mw_1838)) (fun _ h9 => h9) hm_floods d_Mo_isCalm_13 ?_
  refine lv_iload_n hx hb d_Mo_isCalm_16 rfl (lv_at hl 0 rfl) ?_
  refine lv_aload_n hx hb d_Mo_isCalm_17 rfl (lv_at hl 1 rfl) ?_
  refine lv_iload_n hx hb d_Mo_isCalm_18 rfl (lv_at hl 0 rfl) ?_
  have hPc := hP.sub (ws' := [(oM, .inr (12, fm))]) [0] rfl
  have hDc := hD.sub (ws' := [(oM, .inr (12, fm))]) [0] (by decide) rfl
  have hFc := pu_free hS hA
  refine va_calll (va_runV (C := R_Mo) (As := [.int 10]) (rest := [.int 10, .ref am_floods]) ⟨hx, hb, hml, hown, hts⟩ (c_Mo_flood l dC dI cI cB cZ cJ 10 oM fm hm_things hm_pipes H.size) (cwV 1 hts (tb_V mw_2396 mw_2398 sl_151 mw_18 mw_2399) rfl rfl rfl ⟨rfl, by decide +kernel, by decide +kernel, by decide +kernel⟩ ⟨(Nat.le_of_ble_eq_true rfl), (Nat.le_of_ble_eq_true rfl)⟩) ⟨pw_blind, va_recv (q := (R_Mo, F_Mo, 87)) hK.1 hP (ci := 12) (q0 := 0) rfl rfl, pw_pre hPc hK hDc⟩ rfl rfl hl.1 rfl (lv_room (Nat.le_of_ble_eq_true rfl)) d_Mo_isCalm_19 ⟨(Nat.le_of_ble_eq_true rfl), (Nat.le_of_ble_eq_true rfl)⟩) hS (fun q _ h => hFc q h) hFc (fun r u t H locs ht hvm hw hB hz1 hk1 hS => ?_)
  have hP := pu_kept hP hk1
  obtain rfl : r = 0 := hw
  refine va_last hx hb hK.1 hP hD hS 1 3 rfl rfl (vp_in_iff.mpr (by decide)) d_Mo_isCalm_22 (fun H locs hP hD hS => ?_)
  have hP : va_P (dC, dI) classes [(oM, .inr (12, fm)), (am_floods, .inl (cJ, 16, .inr (.inl ((vp_updL f22_9 (10 : Int32).toNatClampNeg 0)))))] H := hP
  have hD : va_D A [(oM, .inr (12, fm)), (am_floods, .inl (cJ, 16, .inr (.inl ((vp_updL f22_9 (10 : Int32).toNatClampNeg 0)))))] := hD
  generalize (vp_updL f22_9 (10 : Int32).toNatClampNeg 0) = f22_10 at hP hD
  refine lv_iinc (k := 0) (v := 11) hx hb d_Mo_isCalm_23 hl rfl (by first | rfl | decide | exact nI_1 i | exact pv_1 j hj) (by decide) rfl (fun ls hl => ?_)
  have hl : lv_has ls 5 [(2, .int 11), (0, .ref oM), (1, .int fa)] := hl
  refine lv_goto (tgt := 6) hx hb d_Mo_isCalm_26 (by decide) ?_
  refine lv_iload_n hx hb d_Mo_isCalm_6 rfl (lv_at hl 0 rfl) ?_
  refine lv_bipush (v := 16) hx hb d_Mo_isCalm_7 (by decide) ?_
  refine lv_icmp_ge (tgt := 29) hx hb d_Mo_isCalm_9 (by decide) (fun h => absurd h (by decide)) (fun _ => ?_)
  refine lv_aload_n hx hb d_Mo_isCalm_12 rfl (lv_at hl 1 rfl) ?_
  refine va_get (D := (dC, dI)) (ci := 12) (v := .ref am_floods) (C := R_Mo) (T := F_Mo) (N := 87) hx hb hts (fun w h => List.mem_cons_of_mem _ (in_Mo w h)) hown hK.1 hP 0 rfl rfl 44 (by decide) (hts _ (List.mem_cons_of_mem _ mw_1838)) (fun _ h9 => h9) hm_floods d_Mo_isCalm_13 ?_
  refine lv_iload_n hx hb d_Mo_isCalm_16 rfl (lv_at hl 0 rfl) ?_
  refine lv_aload_n hx hb d_Mo_isCalm_17 rfl (lv_at hl 1 rfl) ?_
  refine lv_iload_n hx hb d_Mo_isCalm_18 rfl (lv_at hl 0 rfl) ?_
  have hPc := hP.sub (ws' := [(oM, .inr (12, fm))]) [0] rfl
  have hDc := hD.sub (ws' := [(oM, .inr (12, fm))]) [0] (by decide) rfl
  have hFc := pu_free hS hA
  refine va_calll (va_runV (C := R_Mo) (As := [.int 11]) (rest := [.int 11, .ref am_floods]) ⟨hx, hb, hml, hown, hts⟩ (c_Mo_flood l dC dI cI cB cZ cJ 11 oM fm hm_things hm_pipes H.size) (cwV 1 hts (tb_V mw_2396 mw_2398 sl_151 mw_18 mw_2399) rfl rfl rfl ⟨rfl, by decide +kernel, by decide +kernel, by decide +kernel⟩ ⟨(Nat.le_of_ble_eq_true rfl), (Nat.le_of_ble_eq_true rfl)⟩) ⟨pw_blind, va_recv (q := (R_Mo, F_Mo, 87)) hK.1 hP (ci := 12) (q0 := 0) rfl rfl, pw_pre hPc hK hDc⟩ rfl rfl hl.1 rfl (lv_room (Nat.le_of_ble_eq_true rfl)) d_Mo_isCalm_19 ⟨(Nat.le_of_ble_eq_true rfl), (Nat.le_of_ble_eq_true rfl)⟩) hS (fun q _ h => hFc q h) hFc (fun r u t H locs ht hvm hw hB hz1 hk1 hS => ?_)
  have hP := pu_kept hP hk1
  obtain rfl : r = 0 := hw
  refine va_last hx hb hK.1 hP hD hS 1 3 rfl rfl (vp_in_iff.mpr (by decide)) d_Mo_isCalm_22 (fun H locs hP hD hS => ?_)
  have hP : va_P (dC, dI) classes [(oM, .inr (12, fm)), (am_floods, .inl (cJ, 16, .inr (.inl ((vp_updL f22_10 (11 : Int32).toNatClampNeg 0)))))] H := hP
  have hD : va_D A [(oM, .inr (12, fm)), (am_floods, .inl (cJ, 16, .inr (.inl ((vp_updL f22_10 (11 : Int32).toNatClampNeg 0)))))] := hD
  generalize (vp_updL f22_10 (11 : Int32).toNatClampNeg 0) = f22_11 at hP hD
  refine lv_iinc (k := 0) (v := 12) hx hb d_Mo_isCalm_23 hl rfl (by first | rfl | decide | exact nI_1 i | exact pv_1 j hj) (by decide) rfl (fun ls hl => ?_)
  have hl : lv_has ls 5 [(2, .int 12), (0, .ref oM), (1, .int fa)] := hl
  refine lv_goto (tgt := 6) hx hb d_Mo_isCalm_26 (by decide) ?_
  refine lv_iload_n hx hb d_Mo_isCalm_6 rfl (lv_at hl 0 rfl) ?_
  refine lv_bipush (v := 16) hx hb d_Mo_isCalm_7 (by decide) ?_
  refine lv_icmp_ge (tgt := 29) hx hb d_Mo_isCalm_9 (by decide) (fun h => absurd h (by decide)) (fun _ => ?_)
  refine lv_aload_n hx hb d_Mo_isCalm_12 rfl (lv_at hl 1 rfl) ?_
  refine va_get (D := (dC, dI)) (ci := 12) (v := .ref am_floods) (C := R_Mo) (T := F_Mo) (N := 87) hx hb hts (fun w h => List.mem_cons_of_mem _ (in_Mo w h)) hown hK.1 hP 0 rfl rfl 44 (by decide) (hts _ (List.mem_cons_of_mem _ mw_1838)) (fun _ h9 => h9) hm_floods d_Mo_isCalm_13 ?_
  refine lv_iload_n hx hb d_Mo_isCalm_16 rfl (lv_at hl 0 rfl) ?_
  refine lv_aload_n hx hb d_Mo_isCalm_17 rfl (lv_at hl 1 rfl) ?_
  refine lv_iload_n hx hb d_Mo_isCalm_18 rfl (lv_at hl 0 rfl) ?_
  have hPc := hP.sub (ws' := [(oM, .inr (12, fm))]) [0] rfl
  have hDc := hD.sub (ws' := [(oM, .inr (12, fm))]) [0] (by decide) rfl
  have hFc := pu_free hS hA
  refine va_calll (va_runV (C := R_Mo) (As := [.int 12]) (rest := [.int 12, .ref am_floods]) ⟨hx, hb, hml, hown, hts⟩ (c_Mo_flood l dC dI cI cB cZ cJ 12 oM fm hm_things hm_pipes H.size) (cwV 1 hts (tb_V mw_2396 mw_2398 sl_151 mw_18 mw_2399) rfl rfl rfl ⟨rfl, by decide +kernel, by decide +kernel, by decide +kernel⟩ ⟨(Nat.le_of_ble_eq_true rfl), (Nat.le_of_ble_eq_true rfl)⟩) ⟨pw_blind, va_recv (q := (R_Mo, F_Mo, 87)) hK.1 hP (ci := 12) (q0 := 0) rfl rfl, pw_pre hPc hK hDc⟩ rfl rfl hl.1 rfl (lv_room (Nat.le_of_ble_eq_true rfl)) d_Mo_isCalm_19 ⟨(Nat.le_of_ble_eq_true rfl), (Nat.le_of_ble_eq_true rfl)⟩) hS (fun q _ h => hFc q h) hFc (fun r u t H locs ht hvm hw hB hz1 hk1 hS => ?_)
  have hP := pu_kept hP hk1
  obtain rfl : r = 0 := hw
  refine va_last hx hb hK.1 hP hD hS 1 3 rfl rfl (vp_in_iff.mpr (by decide)) d_Mo_isCalm_22 (fun H locs hP hD hS => ?_)
  have hP : va_P (dC, dI) classes [(oM, .inr (12, fm)), (am_floods, .inl (cJ, 16, .inr (.inl ((vp_updL f22_11 (12 : Int32).toNatClampNeg 0)))))] H := hP
  have hD : va_D A [(oM, .inr (12, fm)), (am_floods, .inl (cJ, 16, .inr (.inl ((vp_updL f22_11 (12 : Int32).toNatClampNeg 0)))))] := hD
  generalize (vp_updL f22_11 (12 : Int32).toNatClampNeg 0) = f22_12 at hP hD
  refine lv_iinc (k := 0) (v := 13) hx hb d_Mo_isCalm_23 hl rfl (by first | rfl | decide | exact nI_1 i | exact pv_1 j hj) (by decide) rfl (fun ls hl => ?_)
  have hl : lv_has ls 5 [(2, .int 13), (0, .ref oM), (1, .int fa)] := hl
  refine lv_goto (tgt := 6) hx hb d_Mo_isCalm_26 (by decide) ?_
  refine lv_iload_n hx hb d_Mo_isCalm_6 rfl (lv_at hl 0 rfl) ?_
  refine lv_bipush (v := 16) hx hb d_Mo_isCalm_7 (by decide) ?_
  refine lv_icmp_ge (tgt := 29) hx hb d_Mo_isCalm_9 (by decide) (fun h => absurd h (by decide)) (fun _ => ?_)
  refine lv_aload_n hx hb d_Mo_isCalm_12 rfl (lv_at hl 1 rfl) ?_
  refine va_get (D := (dC, dI)) (ci := 12) (v := .ref am_floods) (C := R_Mo) (T := F_Mo) (N := 87) hx hb hts (fun w h => List.mem_cons_of_mem _ (in_Mo w h)) hown hK.1 hP 0 rfl rfl 44 (by decide) (hts _ (List.mem_cons_of_mem _ mw_1838)) (fun _ h9 => h9) hm_floods d_Mo_isCalm_13 ?_
  refine lv_iload_n hx hb d_Mo_isCalm_16 rfl (lv_at hl 0 rfl) ?_
  refine lv_aload_n hx hb d_Mo_isCalm_17 rfl (lv_at hl 1 rfl) ?_
  refine lv_iload_n hx hb d_Mo_isCalm_18 rfl (lv_at hl 0 rfl) ?_
  have hPc := hP.sub (ws' := [(oM, .inr (12, fm))]) [0] rfl
  have hDc := hD.sub (ws' := [(oM, .inr (12, fm))]) [0] (by decide) rfl
  have hFc := pu_free hS hA
  refine va_calll (va_runV (C := R_Mo) (As := [.int 13]) (rest := [.int 13, .ref am_floods]) ⟨hx, hb, hml, hown, hts⟩ (c_Mo_flood l dC dI cI cB cZ cJ 13 oM fm hm_things hm_pipes H.size) (cwV 1 hts (tb_V mw_2396 mw_2398 sl_151 mw_18 mw_2399) rfl rfl rfl ⟨rfl, by decide +kernel, by decide +kernel, by decide +kernel⟩ ⟨(Nat.le_of_ble_eq_true rfl), (Nat.le_of_ble_eq_true rfl)⟩) ⟨pw_blind, va_recv (q := (R_Mo, F_Mo, 87)) hK.1 hP (ci := 12) (q0 := 0) rfl rfl, pw_pre hPc hK hDc⟩ rfl rfl hl.1 rfl (lv_room (Nat.le_of_ble_eq_true rfl)) d_Mo_isCalm_19 ⟨(Nat.le_of_ble_eq_true rfl), (Nat.le_of_ble_eq_true rfl)⟩) hS (fun q _ h => hFc q h) hFc (fun r u t H locs ht hvm hw hB hz1 hk1 hS => ?_)
  have hP := pu_kept hP hk1
  obtain rfl : r = 0 := hw
  refine va_last hx hb hK.1 hP hD hS 1 3 rfl rfl (vp_in_iff.mpr (by decide)) d_Mo_isCalm_22 (fun H locs hP hD hS => ?_)
  have hP : va_P (dC, dI) classes [(oM, .inr (12, fm)), (am_floods, .inl (cJ, 16, .inr (.inl ((vp_updL f22_12 (13 : Int32).toNatClampNeg 0)))))] H := hP
  have hD : va_D A [(oM, .inr (12, fm)), (am_floods, .inl (cJ, 16, .inr (.inl ((vp_updL f22_12 (13 : Int32).toNatClampNeg 0)))))] := hD
  generalize (vp_updL f22_12 (13 : Int32).toNatClampNeg 0) = f22_13 at hP hD
  refine lv_iinc (k := 0) (v := 14) hx hb d_Mo_isCalm_23 hl rfl (by first | rfl | decide | exact nI_1 i | exact pv_1 j hj) (by decide) rfl (fun ls hl => ?_)
  have hl : lv_has ls 5 [(2, .int 14), (0, .ref oM), (1, .int fa)] := hl
  refine lv_goto (tgt := 6) hx hb d_Mo_isCalm_26 (by decide) ?_
  refine lv_iload_n hx hb d_Mo_isCalm_6 rfl (lv_at hl 0 rfl) ?_
  refine lv_bipush (v := 16) hx hb d_Mo_isCalm_7 (by decide) ?_
  refine lv_icmp_ge (tgt := 29) hx hb d_Mo_isCalm_9 (by decide) (fun h => absurd h (by decide)) (fun _ => ?_)
  refine lv_aload_n hx hb d_Mo_isCalm_12 rfl (lv_at hl 1 rfl) ?_
  refine va_get (D := (dC, dI)) (ci := 12) (v := .ref am_floods) (C := R_Mo) (T := F_Mo) (N := 87) hx hb hts (fun w h => List.mem_cons_of_mem _ (in_Mo w h)) hown hK.1 hP 0 rfl rfl 44 (by decide) (hts _ (List.mem_cons_of_mem _ mw_1838)) (fun _ h9 => h9) hm_floods d_Mo_isCalm_13 ?_
  refine lv_iload_n hx hb d_Mo_isCalm_16 rfl (lv_at hl 0 rfl) ?_
  refine lv_aload_n hx hb d_Mo_isCalm_17 rfl (lv_at hl 1 rfl) ?_
  refine lv_iload_n hx hb d_Mo_isCalm_18 rfl (lv_at hl 0 rfl) ?_
  have hPc := hP.sub (ws' := [(oM, .inr (12, fm))]) [0] rfl
  have hDc := hD.sub (ws' := [(oM, .inr (12, fm))]) [0] (by decide) rfl
  have hFc := pu_free hS hA
  refine va_calll (va_runV (C := R_Mo) (As := [.int 14]) (rest := [.int 14, .ref am_floods]) ⟨hx, hb, hml, hown, hts⟩ (c_Mo_flood l dC dI cI cB cZ cJ 14 oM fm hm_things hm_pipes H.size) (cwV 1 hts (tb_V mw_2396 mw_2398 sl_151 mw_18 mw_2399) rfl rfl rfl ⟨rfl, by decide +kernel, by decide +kernel, by decide +kernel⟩ ⟨(Nat.le_of_ble_eq_true rfl), (Nat.le_of_ble_eq_true rfl)⟩) ⟨pw_blind, va_recv (q := (R_Mo, F_Mo, 87)) hK.1 hP (ci := 12) (q0 := 0) rfl rfl, pw_pre hPc hK hDc⟩ rfl rfl hl.1 rfl (lv_room (Nat.le_of_ble_eq_true rfl)) d_Mo_isCalm_19 ⟨(Nat.le_of_ble_eq_true rfl), (Nat.le_of_ble_eq_true rfl)⟩) hS (fun q _ h => hFc q h) hFc (fun r u t H locs ht hvm hw hB hz1 hk1 hS => ?_)
  have hP := pu_kept hP hk1
  obtain rfl : r = 0 := hw
  refine va_last hx hb hK.1 hP hD hS 1 3 rfl rfl (vp_in_iff.mpr (by decide)) d_Mo_isCalm_22 (fun H locs hP hD hS => ?_)
  have hP : va_P (dC, dI) classes [(oM, .inr (12, fm)), (am_floods, .inl (cJ, 16, .inr (.inl ((vp_updL f22_13 (14 : Int32).toNatClampNeg 0)))))] H := hP
  have hD : va_D A [(oM, .inr (12, fm)), (am_floods, .inl (cJ, 16, .inr (.inl ((vp_updL f22_13 (14 : Int32).toNatClampNeg 0)))))] := hD
  generalize (vp_updL f22_13 (14 : Int32).toNatClampNeg 0) = f22_14 at hP hD
  refine lv_iinc (k := 0) (v := 15) hx hb d_Mo_isCalm_23 hl rfl (by first | rfl | decide | exact nI_1 i | exact pv_1 j hj) (by decide) rfl (fun ls hl => ?_)
  have hl : lv_has ls 5 [(2, .int 15), (0, .ref oM), (1, .int fa)] := hl
  refine lv_goto (tgt := 6) hx hb d_Mo_isCalm_26 (by decide) ?_
  refine lv_iload_n hx hb d_Mo_isCalm_6 rfl (lv_at hl 0 rfl) ?_
  refine lv_bipush (v := 16) hx hb d_Mo_isCalm_7 (by decide) ?_
  refine lv_icmp_ge (tgt := 29) hx hb d_Mo_isCalm_9 (by decide) (fun h => absurd h (by decide)) (fun _ => ?_)
  refine lv_aload_n hx hb d_Mo_isCalm_12 rfl (lv_at hl 1 rfl) ?_
  refine va_get (D := (dC, dI)) (ci := 12) (v := .ref am_floods) (C := R_Mo) (T := F_Mo) (N := 87) hx hb hts (fun w h => List.mem_cons_of_mem _ (in_Mo w h)) hown hK.1 hP 0 rfl rfl 44 (by decide) (hts _ (List.mem_cons_of_mem _ mw_1838)) (fun _ h9 => h9) hm_floods d_Mo_isCalm_13 ?_
  refine lv_iload_n hx hb d_Mo_isCalm_16 rfl (lv_at hl 0 rfl) ?_
  refine lv_aload_n hx hb d_Mo_isCalm_17 rfl (lv_at hl 1 rfl) ?_
  refine lv_iload_n hx hb d_Mo_isCalm_18 rfl (lv_at hl 0 rfl) ?_
  have hPc := hP.sub (ws' := [(oM, .inr (12, fm))]) [0] rfl
  have hDc := hD.sub (ws' := [(oM, .inr (12, fm))]) [0] (by decide) rfl
  have hFc := pu_free hS hA
  refine va_calll (va_runV (C := R_Mo) (As := [.int 15]) (rest := [.int 15, .ref am_floods]) ⟨hx, hb, hml, hown, hts⟩ (c_Mo_flood l dC dI cI cB cZ cJ 15 oM fm hm_things hm_pipes H.size) (cwV 1 hts (tb_V mw_2396 mw_2398 sl_151 mw_18 mw_2399) rfl rfl rfl ⟨rfl, by decide +kernel, by decide +kernel, by decide +kernel⟩ ⟨(Nat.le_of_ble_eq_true rfl), (Nat.le_of_ble_eq_true rfl)⟩) ⟨pw_blind, va_recv (q := (R_Mo, F_Mo, 87)) hK.1 hP (ci := 12) (q0 := 0) rfl rfl, pw_pre hPc hK hDc⟩ rfl rfl hl.1 rfl (lv_room (Nat.le_of_ble_eq_true rfl)) d_Mo_isCalm_19 ⟨(Nat.le_of_ble_eq_true rfl), (Nat.le_of_ble_eq_true rfl)⟩) hS (fun q _ h => hFc q h) hFc (fun r u t H locs ht hvm hw hB hz1 hk1 hS => ?_)
  have hP := pu_kept hP hk1
  obtain rfl : r = 0 := hw
  refine va_last hx hb hK.1 hP hD hS 1 3 rfl rfl (vp_in_iff.mpr (by decide)) d_Mo_isCalm_22 (fun H locs hP hD hS => ?_)
  have hP : va_P (dC, dI) classes [(oM, .inr (12, fm)), (am_floods, .inl (cJ, 16, .inr (.inl ((vp_updL f22_14 (15 : Int32).toNatClampNeg 0)))))] H := hP
  have hD : va_D A [(oM, .inr (12, fm)), (am_floods, .inl (cJ, 16, .inr (.inl ((vp_updL f22_14 (15 : Int32).toNatClampNeg 0)))))] := hD
  generalize (vp_updL f22_14 (15 : Int32).toNatClampNeg 0) = f22_15 at hP hD
  refine lv_iinc (k := 0) (v := 16) hx hb d_Mo_isCalm_23 hl rfl (by first | rfl | decide | exact nI_1 i | exact pv_1 j hj) (by decide) rfl (fun ls hl => ?_)
  have hl : lv_has ls 5 [(2, .int 16), (0, .ref oM), (1, .int fa)] := hl
  refine lv_goto (tgt := 6) hx hb d_Mo_isCalm_26 (by decide) ?_
  refine lv_iload_n hx hb d_Mo_isCalm_6 rfl (lv_at hl 0 rfl) ?_
  refine lv_bipush (v := 16) hx hb d_Mo_isCalm_7 (by decide) ?_
  refine lv_icmp_ge (tgt := 29) hx hb d_Mo_isCalm_9 (by decide) (fun _ => ?_) (fun h => absurd (by decide) h)
  refine lv_iconst (v := 0) hx hb d_Mo_isCalm_29 (by decide) ?_
  refine lv_istore_n hx hb d_Mo_isCalm_30 rfl hl (by decide) rfl (fun ls hl => ?_)
  have hl : lv_has ls 5 [(2, .int 0), (0, .ref oM), (1, .int fa)] := hl
  refine lv_iload_n hx hb d_Mo_isCalm_31 rfl (lv_at hl 0 rfl) ?_
  refine lv_aload_n hx hb d_Mo_isCalm_32 rfl (lv_at hl 1 rfl) ?_
  refine va_get (D := (dC, dI)) (ci := 12) (v := .int 0) (C := R_Mo) (T := F_Mo) (N := 87) hx hb hts (fun w h => List.mem_cons_of_mem _ (in_Mo w h)) hown hK.1 hP 0 rfl rfl 4 (by decide) (hts _ (List.mem_cons_of_mem _ mw_1798)) (fun _ h9 => h9) hm_things d_Mo_isCalm_33 ?_
  refine lv_aload_n hx hb d_Mo_isCalm_36 rfl (lv_at hl 1 rfl) ?_
  refine va_get (D := (dC, dI)) (ci := 12) (v := .int 0) (C := R_Mo) (T := F_Mo) (N := 87) hx hb hts (fun w h => List.mem_cons_of_mem _ (in_Mo w h)) hown hK.1 hP 0 rfl rfl 11 (by decide) (hts _ (List.mem_cons_of_mem _ mw_1805)) (fun _ h9 => h9) hm_pipes d_Mo_isCalm_37 ?_
  refine lv_iadd hx hb d_Mo_isCalm_40 ?_
  refine lv_topi (fun x0 e0 => ?_)
  obtain rfl : x0 = 0 := e0.trans (by decide)
  refine lv_icmp_ge (tgt := 138) hx hb d_Mo_isCalm_41 (by decide) (fun _ => ?_) (fun h => absurd (by decide) h)
  refine lv_iconst (v := 1) hx hb d_Mo_isCalm_138 (by decide) ?_
  exact W.zret (v := 1) (ty := .boolean) hx hb hr (by decide) (fun t ht hW => ⟨⟨_, (), rfl, (rfl), ⟨f22_15, hm_things, hm_pipes, hm_floods, by rw [ht]; exact hP, hD⟩⟩, hS.F ht⟩) hS.2.2 d_Mo_isCalm_139
abbrev t_Mo_isSafe_115 : List UInt8 := 172 :: []
abbrev t_Mo_isSafe_114 : List UInt8 := 27 :: t_Mo_isSafe_115
abbrev t_Mo_isSafe_111 : List UInt8 := 167 :: 255 :: 153 :: t_Mo_isSafe_114
abbrev t_Mo_isSafe_108 : List UInt8 := 132 :: 2 :: 1 :: t_Mo_isSafe_111
abbrev t_Mo_isSafe_107 : List UInt8 := 79 :: t_Mo_isSafe_108
abbrev t_Mo_isSafe_106 : List UInt8 := 29 :: t_Mo_isSafe_107
abbrev t_Mo_isSafe_105 : List UInt8 := 28 :: t_Mo_isSafe_106
abbrev t_Mo_isSafe_102 : List UInt8 := 180 :: 0 :: 40 :: t_Mo_isSafe_105
abbrev t_Mo_isSafe_101 : List UInt8 := 42 :: t_Mo_isSafe_102
abbrev t_Mo_isSafe_98 : List UInt8 := 167 :: 255 :: 188 :: t_Mo_isSafe_101
abbrev t_Mo_isSafe_95 : List UInt8 := 132 :: 4 :: 1 :: t_Mo_isSafe_98
abbrev t_Mo_isSafe_94 : List UInt8 := 60 :: t_Mo_isSafe_95
abbrev t_Mo_isSafe_91 : List UInt8 := 182 :: 1 :: 103 :: t_Mo_isSafe_94
abbrev t_Mo_isSafe_90 : List UInt8 := 96 :: t_Mo_isSafe_91
abbrev t_Mo_isSafe_88 : List UInt8 := 21 :: 4 :: t_Mo_isSafe_90
abbrev t_Mo_isSafe_87 : List UInt8 := 96 :: t_Mo_isSafe_88
abbrev t_Mo_isSafe_86 : List UInt8 := 104 :: t_Mo_isSafe_87
abbrev t_Mo_isSafe_85 : List UInt8 := 28 :: t_Mo_isSafe_86
abbrev t_Mo_isSafe_83 : List UInt8 := 16 :: 10 :: t_Mo_isSafe_85
abbrev t_Mo_isSafe_82 : List UInt8 := 5 :: t_Mo_isSafe_83
abbrev t_Mo_isSafe_81 : List UInt8 := 42 :: t_Mo_isSafe_82
abbrev t_Mo_isSafe_80 : List UInt8 := 79 :: t_Mo_isSafe_81
abbrev t_Mo_isSafe_78 : List UInt8 := 21 :: 4 :: t_Mo_isSafe_80
abbrev t_Mo_isSafe_77 : List UInt8 := 28 :: t_Mo_isSafe_78
abbrev t_Mo_isSafe_74 : List UInt8 := 180 :: 0 :: 40 :: t_Mo_isSafe_77
abbrev t_Mo_isSafe_73 : List UInt8 := 42 :: t_Mo_isSafe_74
abbrev t_Mo_isSafe_70 : List UInt8 := 159 :: 0 :: 25 :: t_Mo_isSafe_73
abbrev t_Mo_isSafe_69 : List UInt8 := 4 :: t_Mo_isSafe_70
abbrev t_Mo_isSafe_67 : List UInt8 := 21 :: 4 :: t_Mo_isSafe_69
abbrev t_Mo_isSafe_64 : List UInt8 := 160 :: 0 :: 9 :: t_Mo_isSafe_67
abbrev t_Mo_isSafe_62 : List UInt8 := 16 :: 6 :: t_Mo_isSafe_64
abbrev t_Mo_isSafe_61 : List UInt8 := 46 :: t_Mo_isSafe_62
abbrev t_Mo_isSafe_60 : List UInt8 := 28 :: t_Mo_isSafe_61
abbrev t_Mo_isSafe_57 : List UInt8 := 180 :: 0 :: 27 :: t_Mo_isSafe_60
abbrev t_Mo_isSafe_56 : List UInt8 := 42 :: t_Mo_isSafe_57
abbrev t_Mo_isSafe_53 : List UInt8 := 159 :: 0 :: 42 :: t_Mo_isSafe_56
abbrev t_Mo_isSafe_52 : List UInt8 := 29 :: t_Mo_isSafe_53
abbrev t_Mo_isSafe_50 : List UInt8 := 21 :: 4 :: t_Mo_isSafe_52
abbrev t_Mo_isSafe_47 : List UInt8 := 153 :: 0 :: 54 :: t_Mo_isSafe_50
abbrev t_Mo_isSafe_46 : List UInt8 := 27 :: t_Mo_isSafe_47
abbrev t_Mo_isSafe_43 : List UInt8 := 161 :: 0 :: 58 :: t_Mo_isSafe_46
abbrev t_Mo_isSafe_42 : List UInt8 := 5 :: t_Mo_isSafe_43
abbrev t_Mo_isSafe_41 : List UInt8 := 46 :: t_Mo_isSafe_42
abbrev t_Mo_isSafe_40 : List UInt8 := 28 :: t_Mo_isSafe_41
abbrev t_Mo_isSafe_37 : List UInt8 := 180 :: 0 :: 27 :: t_Mo_isSafe_40
abbrev t_Mo_isSafe_36 : List UInt8 := 42 :: t_Mo_isSafe_37
abbrev t_Mo_isSafe_33 : List UInt8 := 162 :: 0 :: 68 :: t_Mo_isSafe_36
abbrev t_Mo_isSafe_32 : List UInt8 := 8 :: t_Mo_isSafe_33
abbrev t_Mo_isSafe_30 : List UInt8 := 21 :: 4 :: t_Mo_isSafe_32
abbrev t_Mo_isSafe_28 : List UInt8 := 54 :: 4 :: t_Mo_isSafe_30
abbrev t_Mo_isSafe_27 : List UInt8 := 3 :: t_Mo_isSafe_28
abbrev t_Mo_isSafe_26 : List UInt8 := 62 :: t_Mo_isSafe_27
abbrev t_Mo_isSafe_25 : List UInt8 := 46 :: t_Mo_isSafe_26
abbrev t_Mo_isSafe_24 : List UInt8 := 28 :: t_Mo_isSafe_25
abbrev t_Mo_isSafe_21 : List UInt8 := 180 :: 0 :: 40 :: t_Mo_isSafe_24
abbrev t_Mo_isSafe_20 : List UInt8 := 42 :: t_Mo_isSafe_21
abbrev t_Mo_isSafe_17 : List UInt8 := 153 :: 0 :: 97 :: t_Mo_isSafe_20
abbrev t_Mo_isSafe_16 : List UInt8 := 27 :: t_Mo_isSafe_17
abbrev t_Mo_isSafe_13 : List UInt8 := 162 :: 0 :: 101 :: t_Mo_isSafe_16
abbrev t_Mo_isSafe_10 : List UInt8 := 180 :: 1 :: 22 :: t_Mo_isSafe_13
abbrev t_Mo_isSafe_9 : List UInt8 := 42 :: t_Mo_isSafe_10
abbrev t_Mo_isSafe_8 : List UInt8 := 28 :: t_Mo_isSafe_9
abbrev t_Mo_isSafe_7 : List UInt8 := 61 :: t_Mo_isSafe_8
abbrev t_Mo_isSafe_6 : List UInt8 := 3 :: t_Mo_isSafe_7
abbrev t_Mo_isSafe_5 : List UInt8 := 60 :: t_Mo_isSafe_6
abbrev t_Mo_isSafe_2 : List UInt8 := 182 :: 1 :: 103 :: t_Mo_isSafe_5
abbrev t_Mo_isSafe_1 : List UInt8 := 4 :: t_Mo_isSafe_2
abbrev t_Mo_isSafe_0 : List UInt8 := 42 :: t_Mo_isSafe_1
theorem a_Mo_isSafe_0 : dk_at b_Mo_isSafe 0 t_Mo_isSafe_0 := dk_start (by decide +kernel)
theorem a_Mo_isSafe_1 : dk_at b_Mo_isSafe 1 t_Mo_isSafe_1 := dk_go 1 a_Mo_isSafe_0 rfl
theorem a_Mo_isSafe_2 : dk_at b_Mo_isSafe 2 t_Mo_isSafe_2 := dk_go 1 a_Mo_isSafe_1 rfl
theorem a_Mo_isSafe_5 : dk_at b_Mo_isSafe 5 t_Mo_isSafe_5 := dk_go 3 a_Mo_isSafe_2 rfl
theorem a_Mo_isSafe_6 : dk_at b_Mo_isSafe 6 t_Mo_isSafe_6 := dk_go 1 a_Mo_isSafe_5 rfl
theorem a_Mo_isSafe_7 : dk_at b_Mo_isSafe 7 t_Mo_isSafe_7 := dk_go 1 a_Mo_isSafe_6 rfl
theorem a_Mo_isSafe_8 : dk_at b_Mo_isSafe 8 t_Mo_isSafe_8 := dk_go 1 a_Mo_isSafe_7 rfl
theorem a_Mo_isSafe_9 : dk_at b_Mo_isSafe 9 t_Mo_isSafe_9 := dk_go 1 a_Mo_isSafe_8 rfl
theorem a_Mo_isSafe_10 : dk_at b_Mo_isSafe 10 t_Mo_isSafe_10 := dk_go 1 a_Mo_isSafe_9 rfl
theorem a_Mo_isSafe_13 : dk_at b_Mo_isSafe 13 t_Mo_isSafe_13 := dk_go 3 a_Mo_isSafe_10 rfl
theorem a_Mo_isSafe_16 : dk_at b_Mo_isSafe 16 t_Mo_isSafe_16 := dk_go 3 a_Mo_isSafe_13 rfl
theorem a_Mo_isSafe_17 : dk_at b_Mo_isSafe 17 t_Mo_isSafe_17 := dk_go 1 a_Mo_isSafe_16 rfl
theorem a_Mo_isSafe_20 : dk_at b_Mo_isSafe 20 t_Mo_isSafe_20 := dk_go 3 a_Mo_isSafe_17 rfl
theorem a_Mo_isSafe_21 : dk_at b_Mo_isSafe 21 t_Mo_isSafe_21 := dk_go 1 a_Mo_isSafe_20 rfl
theorem a_Mo_isSafe_24 : dk_at b_Mo_isSafe 24 t_Mo_isSafe_24 := dk_go 3 a_Mo_isSafe_21 rfl
theorem a_Mo_isSafe_25 : dk_at b_Mo_isSafe 25 t_Mo_isSafe_25 := dk_go 1 a_Mo_isSafe_24 rfl
theorem a_Mo_isSafe_26 : dk_at b_Mo_isSafe 26 t_Mo_isSafe_26 := dk_go 1 a_Mo_isSafe_25 rfl
theorem a_Mo_isSafe_27 : dk_at b_Mo_isSafe 27 t_Mo_isSafe_27 := dk_go 1 a_Mo_isSafe_26 rfl
theorem a_Mo_isSafe_28 : dk_at b_Mo_isSafe 28 t_Mo_isSafe_28 := dk_go 1 a_Mo_isSafe_27 rfl
theorem a_Mo_isSafe_30 : dk_at b_Mo_isSafe 30 t_Mo_isSafe_30 := dk_go 2 a_Mo_isSafe_28 rfl
theorem a_Mo_isSafe_32 : dk_at b_Mo_isSafe 32 t_Mo_isSafe_32 := dk_go 2 a_Mo_isSafe_30 rfl
theorem a_Mo_isSafe_33 : dk_at b_Mo_isSafe 33 t_Mo_isSafe_33 := dk_go 1 a_Mo_isSafe_32 rfl
theorem a_Mo_isSafe_36 : dk_at b_Mo_isSafe 36 t_Mo_isSafe_36 := dk_go 3 a_Mo_isSafe_33 rfl
theorem a_Mo_isSafe_37 : dk_at b_Mo_isSafe 37 t_Mo_isSafe_37 := dk_go 1 a_Mo_isSafe_36 rfl
theorem a_Mo_isSafe_40 : dk_at b_Mo_isSafe 40 t_Mo_isSafe_40 := dk_go 3 a_Mo_isSafe_37 rfl
theorem a_Mo_isSafe_41 : dk_at b_Mo_isSafe 41 t_Mo_isSafe_41 := dk_go 1 a_Mo_isSafe_40 rfl
theorem a_Mo_isSafe_42 : dk_at b_Mo_isSafe 42 t_Mo_isSafe_42 := dk_go 1 a_Mo_isSafe_41 rfl
theorem a_Mo_isSafe_43 : dk_at b_Mo_isSafe 43 t_Mo_isSafe_43 := dk_go 1 a_Mo_isSafe_42 rfl
theorem a_Mo_isSafe_46 : dk_at b_Mo_isSafe 46 t_Mo_isSafe_46 := dk_go 3 a_Mo_isSafe_43 rfl
theorem a_Mo_isSafe_47 : dk_at b_Mo_isSafe 47 t_Mo_isSafe_47 := dk_go 1 a_Mo_isSafe_46 rfl
theorem a_Mo_isSafe_50 : dk_at b_Mo_isSafe 50 t_Mo_isSafe_50 := dk_go 3 a_Mo_isSafe_47 rfl
theorem a_Mo_isSafe_52 : dk_at b_Mo_isSafe 52 t_Mo_isSafe_52 := dk_go 2 a_Mo_isSafe_50 rfl
theorem a_Mo_isSafe_53 : dk_at b_Mo_isSafe 53 t_Mo_isSafe_53 := dk_go 1 a_Mo_isSafe_52 rfl
theorem a_Mo_isSafe_56 : dk_at b_Mo_isSafe 56 t_Mo_isSafe_56 := dk_go 3 a_Mo_isSafe_53 rfl
theorem a_Mo_isSafe_57 : dk_at b_Mo_isSafe 57 t_Mo_isSafe_57 := dk_go 1 a_Mo_isSafe_56 rfl
theorem a_Mo_isSafe_60 : dk_at b_Mo_isSafe 60 t_Mo_isSafe_60 := dk_go 3 a_Mo_isSafe_57 rfl
theorem a_Mo_isSafe_61 : dk_at b_Mo_isSafe 61 t_Mo_isSafe_61 := dk_go 1 a_Mo_isSafe_60 rfl
theorem a_Mo_isSafe_62 : dk_at b_Mo_isSafe 62 t_Mo_isSafe_62 := dk_go 1 a_Mo_isSafe_61 rfl
theorem a_Mo_isSafe_64 : dk_at b_Mo_isSafe 64 t_Mo_isSafe_64 := dk_go 2 a_Mo_isSafe_62 rfl
theorem a_Mo_isSafe_67 : dk_at b_Mo_isSafe 67 t_Mo_isSafe_67 := dk_go 3 a_Mo_isSafe_64 rfl
theorem a_Mo_isSafe_69 : dk_at b_Mo_isSafe 69 t_Mo_isSafe_69 := dk_go 2 a_Mo_isSafe_67 rfl
theorem a_Mo_isSafe_70 : dk_at b_Mo_isSafe 70 t_Mo_isSafe_70 := dk_go 1 a_Mo_isSafe_69 rfl
theorem a_Mo_isSafe_73 : dk_at b_Mo_isSafe 73 t_Mo_isSafe_73 := dk_go 3 a_Mo_isSafe_70 rfl
theorem a_Mo_isSafe_74 : dk_at b_Mo_isSafe 74 t_Mo_isSafe_74 := dk_go 1 a_Mo_isSafe_73 rfl
theorem a_Mo_isSafe_77 : dk_at b_Mo_isSafe 77 t_Mo_isSafe_77 := dk_go 3 a_Mo_isSafe_74 rfl
theorem a_Mo_isSafe_78 : dk_at b_Mo_isSafe 78 t_Mo_isSafe_78 := dk_go 1 a_Mo_isSafe_77 rfl
theorem a_Mo_isSafe_80 : dk_at b_Mo_isSafe 80 t_Mo_isSafe_80 := dk_go 2 a_Mo_isSafe_78 rfl
theorem a_Mo_isSafe_81 : dk_at b_Mo_isSafe 81 t_Mo_isSafe_81 := dk_go 1 a_Mo_isSafe_80 rfl
theorem a_Mo_isSafe_82 : dk_at b_Mo_isSafe 82 t_Mo_isSafe_82 := dk_go 1 a_Mo_isSafe_81 rfl
theorem a_Mo_isSafe_83 : dk_at b_Mo_isSafe 83 t_Mo_isSafe_83 := dk_go 1 a_Mo_isSafe_82 rfl
theorem a_Mo_isSafe_85 : dk_at b_Mo_isSafe 85 t_Mo_isSafe_85 := dk_go 2 a_Mo_isSafe_83 rfl
theorem a_Mo_isSafe_86 : dk_at b_Mo_isSafe 86 t_Mo_isSafe_86 := dk_go 1 a_Mo_isSafe_85 rfl
theorem a_Mo_isSafe_87 : dk_at b_Mo_isSafe 87 t_Mo_isSafe_87 := dk_go 1 a_Mo_isSafe_86 rfl
theorem a_Mo_isSafe_88 : dk_at b_Mo_isSafe 88 t_Mo_isSafe_88 := dk_go 1 a_Mo_isSafe_87 rfl
theorem a_Mo_isSafe_90 : dk_at b_Mo_isSafe 90 t_Mo_isSafe_90 := dk_go 2 a_Mo_isSafe_88 rfl
theorem a_Mo_isSafe_91 : dk_at b_Mo_isSafe 91 t_Mo_isSafe_91 := dk_go 1 a_Mo_isSafe_90 rfl
theorem a_Mo_isSafe_94 : dk_at b_Mo_isSafe 94 t_Mo_isSafe_94 := dk_go 3 a_Mo_isSafe_91 rfl
theorem a_Mo_isSafe_95 : dk_at b_Mo_isSafe 95 t_Mo_isSafe_95 := dk_go 1 a_Mo_isSafe_94 rfl
theorem a_Mo_isSafe_98 : dk_at b_Mo_isSafe 98 t_Mo_isSafe_98 := dk_go 3 a_Mo_isSafe_95 rfl
theorem a_Mo_isSafe_101 : dk_at b_Mo_isSafe 101 t_Mo_isSafe_101 := dk_go 3 a_Mo_isSafe_98 rfl
theorem a_Mo_isSafe_102 : dk_at b_Mo_isSafe 102 t_Mo_isSafe_102 := dk_go 1 a_Mo_isSafe_101 rfl
theorem a_Mo_isSafe_105 : dk_at b_Mo_isSafe 105 t_Mo_isSafe_105 := dk_go 3 a_Mo_isSafe_102 rfl
theorem a_Mo_isSafe_106 : dk_at b_Mo_isSafe 106 t_Mo_isSafe_106 := dk_go 1 a_Mo_isSafe_105 rfl
theorem a_Mo_isSafe_107 : dk_at b_Mo_isSafe 107 t_Mo_isSafe_107 := dk_go 1 a_Mo_isSafe_106 rfl
theorem a_Mo_isSafe_108 : dk_at b_Mo_isSafe 108 t_Mo_isSafe_108 := dk_go 1 a_Mo_isSafe_107 rfl
theorem a_Mo_isSafe_111 : dk_at b_Mo_isSafe 111 t_Mo_isSafe_111 := dk_go 3 a_Mo_isSafe_108 rfl
theorem a_Mo_isSafe_114 : dk_at b_Mo_isSafe 114 t_Mo_isSafe_114 := dk_go 3 a_Mo_isSafe_111 rfl
theorem a_Mo_isSafe_115 : dk_at b_Mo_isSafe 115 t_Mo_isSafe_115 := dk_go 1 a_Mo_isSafe_114 rfl
theorem d_Mo_isSafe_0 : decode b_Mo_isSafe 0 = .ok (.aload_n 0, 1) := dk_0 a_Mo_isSafe_0 (dko_42 _)
theorem d_Mo_isSafe_1 : decode b_Mo_isSafe 1 = .ok (.iconst 1, 1) := dk_0 a_Mo_isSafe_1 (dko_4 _)
theorem d_Mo_isSafe_2 : decode b_Mo_isSafe 2 = .ok (.invokevirtual 359, 3) := dk_U2 a_Mo_isSafe_2 (dko_182 _) rfl
theorem d_Mo_isSafe_5 : decode b_Mo_isSafe 5 = .ok (.istore_n 1, 1) := dk_0 a_Mo_isSafe_5 (dko_60 _)
theorem d_Mo_isSafe_6 : decode b_Mo_isSafe 6 = .ok (.iconst 0, 1) := dk_0 a_Mo_isSafe_6 (dko_3 _)
theorem d_Mo_isSafe_7 : decode b_Mo_isSafe 7 = .ok (.istore_n 2, 1) := dk_0 a_Mo_isSafe_7 (dko_61 _)
theorem d_Mo_isSafe_8 : decode b_Mo_isSafe 8 = .ok (.iload_n 2, 1) := dk_0 a_Mo_isSafe_8 (dko_28 _)
theorem d_Mo_isSafe_9 : decode b_Mo_isSafe 9 = .ok (.aload_n 0, 1) := dk_0 a_Mo_isSafe_9 (dko_42 _)
theorem d_Mo_isSafe_10 : decode b_Mo_isSafe 10 = .ok (.getfield 278, 3) := dk_U2 a_Mo_isSafe_10 (dko_180 _) rfl
theorem d_Mo_isSafe_13 : decode b_Mo_isSafe 13 = .ok (.if_icmp .ge 101, 3) := dk_S2 a_Mo_isSafe_13 (dko_162 _) (by decide +kernel)
theorem d_Mo_isSafe_114 : decode b_Mo_isSafe 114 = .ok (.iload_n 1, 1) := dk_0 a_Mo_isSafe_114 (dko_27 _)
theorem d_Mo_isSafe_115 : decode b_Mo_isSafe 115 = .ok (.ireturn, 1) := dk_0 a_Mo_isSafe_115 (dko_172 _)
set_option maxHeartbeats 4000000 in
set_option maxRecDepth 100000 in
theorem c_Mo_isSafe (l : Launch) (dC : Nat → ClassId) (dI : Nat → Nat → Nat) (cI cB cZ cJ : ClassId) (oM : Nat) (am_floods : Nat) (fm : List Value) (hm_things : fx fm 4 (.int 0)) (hm_pipes : fx fm 11 (.int 0)) (hm_floods : fx fm 44 (.ref am_floods)) (sz : Nat) : Met l y_Mo_isSafe w_Mo_isSafe ({ frames := 2, cells := 0, slots := 0, locals := 51 }) (va_Pc [.ref oM] (PW dC dI cI cB cZ cJ [(oM, .inr (12, fm)), (am_floods, .inl (cJ, 16, .inr (.inl (fun _ => 0))))] sz)) (va_Qi (fun (r : Int32) (_ : Unit) => r = 1) (fun _ _ => True) (va_A [(oM, .inr (12, fm)), (am_floods, .inl (cJ, 16, .inr (.inl (fun _ => 0))))] sz)) 0 0 (va_A [(oM, .inr (12, fm)), (am_floods, .inl (cJ, 16, .inr (.inl (fun _ => 0))))] sz) := by
  refine Met.ofW (cc := b_Mo_isSafe) (maxL := 5) (ret := (some .boolean)) (by decide) rfl ?_
  intro p e s m args below meth c s₁ B hml hv
  obtain ⟨rfl, hsz, hP, hK, hD⟩ := hv
  have hx := B.exec
  have hb := B.bytes
  have hr := B.returns
  have hts := atoms_spec (ws := w_Mo_isSafe) B.pre
  have hown : s.vm.findClass R_Mo = some m.cls := findClass_of_methodNamed B.named
  have hlocks := B.notSynchronized
  subst hsz
  have hD := hD.self (sz := s.heap.size)
  generalize hAe : va_A [(oM, .inr (12, fm)), (am_floods, .inl (cJ, 16, .inr (.inl (fun _ => 0))))] s.heap.size = A at hD ⊢
  have hA : ∀ q : Nat, s.heap.size ≤ q → A q := fun q h => by rw [← hAe]; exact Or.inr h
  have hS : va_S A s.heap s.heap [] := va_S.rf
  have hP : va_P (dC, dI) classes [(oM, .inr (12, fm)), (am_floods, .inl (cJ, 16, .inr (.inl (fun _ => 0))))] s.heap := hP
  have hl := lv_entry ([.ref oM]) (n := 5) (Nat.le_of_ble_eq_true rfl)
  rw [lg_entry_eq]
  generalize (lg_sl ([.ref oM]) ++ List.replicate (5 - (lg_sl ([.ref oM])).length) Slot.unset).toArray = ls at hl ⊢
  have hl : lv_has ls 5 [(0, .ref oM)] := hl
  refine lv_aload_n hx hb d_Mo_isSafe_0 rfl (lv_at hl 0 rfl) ?_
  refine lv_iconst (v := 1) hx hb d_Mo_isSafe_1 (by decide) ?_
  have hPc := hP.sub (ws' := [(oM, .inr (12, fm)), (am_floods, .inl (cJ, 16, .inr (.inl (fun _ => 0))))]) [0, 1] rfl
  have hDc := hD.sub (ws' := [(oM, .inr (12, fm)), (am_floods, .inl (cJ, 16, .inr (.inl (fun _ => 0))))]) [0, 1] (by decide) rfl
  have hFc := va_free (wc := [(oM, .inr (12, fm)), (am_floods, .inl (cJ, 16, .inr (.inl (fun _ => 0))))]) hD hS hA [0, 1] rfl
  refine va_calli (va_runV (C := R_Mo) (As := [.int 1]) (rest := []) ⟨hx, hb, hml, hown, hts⟩ (c_Mo_isCalm l dC dI cI cB cZ cJ 1 oM am_floods fm hm_things hm_pipes hm_floods s.heap.size) (cwV 1 hts (tb_V mw_2385 mw_2387 sl_149 mw_18 mw_2388) rfl rfl rfl ⟨rfl, by decide +kernel, by decide +kernel, by decide +kernel⟩ ⟨(Nat.le_of_ble_eq_true rfl), (Nat.le_of_ble_eq_true rfl)⟩) ⟨pw_blind, va_recv (q := (R_Mo, F_Mo, 87)) hK.1 hP (ci := 12) (q0 := 0) rfl rfl, pw_pre hPc hK hDc⟩ rfl rfl hl.1 rfl (lv_room (Nat.le_of_ble_eq_true rfl)) d_Mo_isSafe_2 ⟨(Nat.le_of_ble_eq_true rfl), (Nat.le_of_ble_eq_true rfl)⟩) hS (fun q _ h => hFc q h) hFc (fun r u t H locs ht hvm hw hB hz1 hk1 hS => ?_)
  obtain ⟨f2_1_am_floods, k2_1_oM_4, k2_1_oM_11, k2_1_oM_44, hP1, hD1⟩ := hB
  rw [ht] at hP1
  obtain ⟨hP, hD⟩ := va_join (wr := []) (w1 := [(oM, .inr (12, fm)), (am_floods, .inl (cJ, 16, .inr (.inl f2_1_am_floods)))]) hP hD [0, 1] [] rfl rfl (by decide) (by decide) hk1 hFc hP1 hD1
  have hP : va_P (dC, dI) classes [(oM, .inr (12, fm)), (am_floods, .inl (cJ, 16, .inr (.inl f2_1_am_floods)))] H := hP
  have hD : va_D A [(oM, .inr (12, fm)), (am_floods, .inl (cJ, 16, .inr (.inl f2_1_am_floods)))] := hD
  obtain rfl : r = 1 := hw
  refine lv_istore_n hx hb d_Mo_isSafe_5 rfl hl (by decide) rfl (fun ls hl => ?_)
  have hl : lv_has ls 5 [(1, .int 1), (0, .ref oM)] := hl
  refine lv_iconst (v := 0) hx hb d_Mo_isSafe_6 (by decide) ?_
  refine lv_istore_n hx hb d_Mo_isSafe_7 rfl hl (by decide) rfl (fun ls hl => ?_)
  have hl : lv_has ls 5 [(2, .int 0), (1, .int 1), (0, .ref oM)] := hl
  refine lv_iload_n hx hb d_Mo_isSafe_8 rfl (lv_at hl 0 rfl) ?_
  refine lv_aload_n hx hb d_Mo_isSafe_9 rfl (lv_at hl 2 rfl) ?_
  refine va_get (D := (dC, dI)) (ci := 12) (v := .int 0) (C := R_Mo) (T := F_Mo) (N := 87) hx hb hts (fun w h => List.mem_cons_of_mem _ (in_Mo w h)) hown hK.1 hP 0 rfl rfl 4 (by decide) (hts _ (List.mem_cons_of_mem _ mw_1798)) (fun _ h9 => h9) hm_things d_Mo_isSafe_10 ?_
  refine lv_icmp_ge (tgt := 114) hx hb d_Mo_isSafe_13 (by decide) (fun _ => ?_) (fun h => absurd (by decide) h)
  refine lv_iload_n hx hb d_Mo_isSafe_114 rfl (lv_at hl 1 rfl) ?_
  exact W.zret (v := 1) (ty := .boolean) hx hb hr (by decide) (fun t ht hW => ⟨⟨_, (), rfl, (rfl), trivial⟩, hS.F ht⟩) hS.2.2 d_Mo_isSafe_115
abbrev t_Mo_danger_69 : List UInt8 := 172 :: []
abbrev t_Mo_danger_68 : List UInt8 := 2 :: t_Mo_danger_69
abbrev t_Mo_danger_65 : List UInt8 := 167 :: 0 :: 4 :: t_Mo_danger_68
abbrev t_Mo_danger_62 : List UInt8 := 180 :: 1 :: 100 :: t_Mo_danger_65
abbrev t_Mo_danger_61 : List UInt8 := 42 :: t_Mo_danger_62
abbrev t_Mo_danger_58 : List UInt8 := 160 :: 0 :: 10 :: t_Mo_danger_61
abbrev t_Mo_danger_57 : List UInt8 := 6 :: t_Mo_danger_58
abbrev t_Mo_danger_56 : List UInt8 := 27 :: t_Mo_danger_57
abbrev t_Mo_danger_53 : List UInt8 := 167 :: 0 :: 16 :: t_Mo_danger_56
abbrev t_Mo_danger_50 : List UInt8 := 180 :: 1 :: 97 :: t_Mo_danger_53
abbrev t_Mo_danger_49 : List UInt8 := 42 :: t_Mo_danger_50
abbrev t_Mo_danger_46 : List UInt8 := 160 :: 0 :: 10 :: t_Mo_danger_49
abbrev t_Mo_danger_45 : List UInt8 := 5 :: t_Mo_danger_46
abbrev t_Mo_danger_44 : List UInt8 := 27 :: t_Mo_danger_45
abbrev t_Mo_danger_41 : List UInt8 := 167 :: 0 :: 28 :: t_Mo_danger_44
abbrev t_Mo_danger_38 : List UInt8 := 180 :: 1 :: 94 :: t_Mo_danger_41
abbrev t_Mo_danger_37 : List UInt8 := 42 :: t_Mo_danger_38
abbrev t_Mo_danger_34 : List UInt8 := 160 :: 0 :: 10 :: t_Mo_danger_37
abbrev t_Mo_danger_33 : List UInt8 := 4 :: t_Mo_danger_34
abbrev t_Mo_danger_32 : List UInt8 := 27 :: t_Mo_danger_33
abbrev t_Mo_danger_29 : List UInt8 := 167 :: 0 :: 40 :: t_Mo_danger_32
abbrev t_Mo_danger_26 : List UInt8 := 180 :: 1 :: 91 :: t_Mo_danger_29
abbrev t_Mo_danger_25 : List UInt8 := 42 :: t_Mo_danger_26
abbrev t_Mo_danger_22 : List UInt8 := 154 :: 0 :: 10 :: t_Mo_danger_25
abbrev t_Mo_danger_21 : List UInt8 := 27 :: t_Mo_danger_22
abbrev t_Mo_danger_20 : List UInt8 := 172 :: t_Mo_danger_21
abbrev t_Mo_danger_19 : List UInt8 := 2 :: t_Mo_danger_20
abbrev t_Mo_danger_16 : List UInt8 := 167 :: 0 :: 4 :: t_Mo_danger_19
abbrev t_Mo_danger_15 : List UInt8 := 3 :: t_Mo_danger_16
abbrev t_Mo_danger_12 : List UInt8 := 154 :: 0 :: 7 :: t_Mo_danger_15
abbrev t_Mo_danger_11 : List UInt8 := 27 :: t_Mo_danger_12
abbrev t_Mo_danger_8 : List UInt8 := 153 :: 0 :: 13 :: t_Mo_danger_11
abbrev t_Mo_danger_5 : List UInt8 := 182 :: 1 :: 113 :: t_Mo_danger_8
abbrev t_Mo_danger_4 : List UInt8 := 42 :: t_Mo_danger_5
abbrev t_Mo_danger_1 : List UInt8 := 182 :: 1 :: 110 :: t_Mo_danger_4
abbrev t_Mo_danger_0 : List UInt8 := 42 :: t_Mo_danger_1
theorem a_Mo_danger_0 : dk_at b_Mo_danger 0 t_Mo_danger_0 := dk_start (by decide +kernel)
theorem a_Mo_danger_1 : dk_at b_Mo_danger 1 t_Mo_danger_1 := dk_go 1 a_Mo_danger_0 rfl
theorem a_Mo_danger_4 : dk_at b_Mo_danger 4 t_Mo_danger_4 := dk_go 3 a_Mo_danger_1 rfl
theorem a_Mo_danger_5 : dk_at b_Mo_danger 5 t_Mo_danger_5 := dk_go 1 a_Mo_danger_4 rfl
theorem a_Mo_danger_8 : dk_at b_Mo_danger 8 t_Mo_danger_8 := dk_go 3 a_Mo_danger_5 rfl
theorem a_Mo_danger_11 : dk_at b_Mo_danger 11 t_Mo_danger_11 := dk_go 3 a_Mo_danger_8 rfl
theorem a_Mo_danger_12 : dk_at b_Mo_danger 12 t_Mo_danger_12 := dk_go 1 a_Mo_danger_11 rfl
theorem a_Mo_danger_15 : dk_at b_Mo_danger 15 t_Mo_danger_15 := dk_go 3 a_Mo_danger_12 rfl
theorem a_Mo_danger_16 : dk_at b_Mo_danger 16 t_Mo_danger_16 := dk_go 1 a_Mo_danger_15 rfl
theorem a_Mo_danger_19 : dk_at b_Mo_danger 19 t_Mo_danger_19 := dk_go 3 a_Mo_danger_16 rfl
theorem a_Mo_danger_20 : dk_at b_Mo_danger 20 t_Mo_danger_20 := dk_go 1 a_Mo_danger_19 rfl
theorem a_Mo_danger_21 : dk_at b_Mo_danger 21 t_Mo_danger_21 := dk_go 1 a_Mo_danger_20 rfl
theorem a_Mo_danger_22 : dk_at b_Mo_danger 22 t_Mo_danger_22 := dk_go 1 a_Mo_danger_21 rfl
theorem a_Mo_danger_25 : dk_at b_Mo_danger 25 t_Mo_danger_25 := dk_go 3 a_Mo_danger_22 rfl
theorem a_Mo_danger_26 : dk_at b_Mo_danger 26 t_Mo_danger_26 := dk_go 1 a_Mo_danger_25 rfl
theorem a_Mo_danger_29 : dk_at b_Mo_danger 29 t_Mo_danger_29 := dk_go 3 a_Mo_danger_26 rfl
theorem a_Mo_danger_32 : dk_at b_Mo_danger 32 t_Mo_danger_32 := dk_go 3 a_Mo_danger_29 rfl
theorem a_Mo_danger_33 : dk_at b_Mo_danger 33 t_Mo_danger_33 := dk_go 1 a_Mo_danger_32 rfl
theorem a_Mo_danger_34 : dk_at b_Mo_danger 34 t_Mo_danger_34 := dk_go 1 a_Mo_danger_33 rfl
theorem a_Mo_danger_37 : dk_at b_Mo_danger 37 t_Mo_danger_37 := dk_go 3 a_Mo_danger_34 rfl
theorem a_Mo_danger_38 : dk_at b_Mo_danger 38 t_Mo_danger_38 := dk_go 1 a_Mo_danger_37 rfl
theorem a_Mo_danger_41 : dk_at b_Mo_danger 41 t_Mo_danger_41 := dk_go 3 a_Mo_danger_38 rfl
theorem a_Mo_danger_44 : dk_at b_Mo_danger 44 t_Mo_danger_44 := dk_go 3 a_Mo_danger_41 rfl
theorem a_Mo_danger_45 : dk_at b_Mo_danger 45 t_Mo_danger_45 := dk_go 1 a_Mo_danger_44 rfl
theorem a_Mo_danger_46 : dk_at b_Mo_danger 46 t_Mo_danger_46 := dk_go 1 a_Mo_danger_45 rfl
theorem a_Mo_danger_49 : dk_at b_Mo_danger 49 t_Mo_danger_49 := dk_go 3 a_Mo_danger_46 rfl
theorem a_Mo_danger_50 : dk_at b_Mo_danger 50 t_Mo_danger_50 := dk_go 1 a_Mo_danger_49 rfl
theorem a_Mo_danger_53 : dk_at b_Mo_danger 53 t_Mo_danger_53 := dk_go 3 a_Mo_danger_50 rfl
theorem a_Mo_danger_56 : dk_at b_Mo_danger 56 t_Mo_danger_56 := dk_go 3 a_Mo_danger_53 rfl
theorem a_Mo_danger_57 : dk_at b_Mo_danger 57 t_Mo_danger_57 := dk_go 1 a_Mo_danger_56 rfl
theorem a_Mo_danger_58 : dk_at b_Mo_danger 58 t_Mo_danger_58 := dk_go 1 a_Mo_danger_57 rfl
theorem a_Mo_danger_61 : dk_at b_Mo_danger 61 t_Mo_danger_61 := dk_go 3 a_Mo_danger_58 rfl
theorem a_Mo_danger_62 : dk_at b_Mo_danger 62 t_Mo_danger_62 := dk_go 1 a_Mo_danger_61 rfl
theorem a_Mo_danger_65 : dk_at b_Mo_danger 65 t_Mo_danger_65 := dk_go 3 a_Mo_danger_62 rfl
theorem a_Mo_danger_68 : dk_at b_Mo_danger 68 t_Mo_danger_68 := dk_go 3 a_Mo_danger_65 rfl
theorem a_Mo_danger_69 : dk_at b_Mo_danger 69 t_Mo_danger_69 := dk_go 1 a_Mo_danger_68 rfl
theorem d_Mo_danger_0 : decode b_Mo_danger 0 = .ok (.aload_n 0, 1) := dk_0 a_Mo_danger_0 (dko_42 _)
theorem d_Mo_danger_1 : decode b_Mo_danger 1 = .ok (.invokevirtual 366, 3) := dk_U2 a_Mo_danger_1 (dko_182 _) rfl
theorem d_Mo_danger_4 : decode b_Mo_danger 4 = .ok (.aload_n 0, 1) := dk_0 a_Mo_danger_4 (dko_42 _)
theorem d_Mo_danger_5 : decode b_Mo_danger 5 = .ok (.invokevirtual 369, 3) := dk_U2 a_Mo_danger_5 (dko_182 _) rfl
theorem d_Mo_danger_8 : decode b_Mo_danger 8 = .ok (.ifCond .eq 13, 3) := dk_S2 a_Mo_danger_8 (dko_153 _) (by decide +kernel)
theorem d_Mo_danger_11 : decode b_Mo_danger 11 = .ok (.iload_n 1, 1) := dk_0 a_Mo_danger_11 (dko_27 _)
theorem d_Mo_danger_12 : decode b_Mo_danger 12 = .ok (.ifCond .ne 7, 3) := dk_S2 a_Mo_danger_12 (dko_154 _) (by decide +kernel)
theorem d_Mo_danger_15 : decode b_Mo_danger 15 = .ok (.iconst 0, 1) := dk_0 a_Mo_danger_15 (dko_3 _)
theorem d_Mo_danger_16 : decode b_Mo_danger 16 = .ok (.goto 4, 3) := dk_S2 a_Mo_danger_16 (dko_167 _) (by decide +kernel)
theorem d_Mo_danger_19 : decode b_Mo_danger 19 = .ok (.iconst (-1), 1) := dk_0 a_Mo_danger_19 (dko_2 _)
theorem d_Mo_danger_20 : decode b_Mo_danger 20 = .ok (.ireturn, 1) := dk_0 a_Mo_danger_20 (dko_172 _)
def fn_Mo_danger (wh : Int32) : Int32 := (if wh = 0 then 0 else (-1))
set_option maxHeartbeats 4000000 in
set_option maxRecDepth 100000 in
theorem c_Mo_danger (l : Launch) (dC : Nat → ClassId) (dI : Nat → Nat → Nat) (cI cB cZ cJ : ClassId) (wh : Int32) (oM : Nat) (am_floods : Nat) (fm : List Value) (hm_things : fx fm 4 (.int 0)) (hm_pipes : fx fm 11 (.int 0)) (hm_ways : fx fm 26 (.int 0)) (hm_floods : fx fm 44 (.ref am_floods)) (sz : Nat) : Met l y_Mo_danger w_Mo_danger ({ frames := 3, cells := 0, slots := 0, locals := 75 }) (va_Pc [.ref oM, .int wh] (PW dC dI cI cB cZ cJ [(oM, .inr (12, fm)), (am_floods, .inl (cJ, 16, .inr (.inl (fun _ => 0))))] sz)) (va_Qi (fun (r : Int32) (_ : Unit) => r = fn_Mo_danger wh) (fun _ _ => True) (va_A [(oM, .inr (12, fm)), (am_floods, .inl (cJ, 16, .inr (.inl (fun _ => 0))))] sz)) 0 0 (va_A [(oM, .inr (12, fm)), (am_floods, .inl (cJ, 16, .inr (.inl (fun _ => 0))))] sz) := by
  refine Met.ofW (cc := b_Mo_danger) (maxL := 2) (ret := (some .int)) (by decide) rfl ?_
  intro p e s m args below meth c s₁ B hml hv
  obtain ⟨rfl, hsz, hP, hK, hD⟩ := hv
  have hx := B.exec
  have hb := B.bytes
  have hr := B.returns
  have hts := atoms_spec (ws := w_Mo_danger) B.pre
  have hown : s.vm.findClass R_Mo = some m.cls := findClass_of_methodNamed B.named
  have hlocks := B.notSynchronized
  subst hsz
  have hD := hD.self (sz := s.heap.size)
  generalize hAe : va_A [(oM, .inr (12, fm)), (am_floods, .inl (cJ, 16, .inr (.inl (fun _ => 0))))] s.heap.size = A at hD ⊢
  have hA : ∀ q : Nat, s.heap.size ≤ q → A q := fun q h => by rw [← hAe]; exact Or.inr h
  have hS : va_S A s.heap s.heap [] := va_S.rf
  have hP : va_P (dC, dI) classes [(oM, .inr (12, fm)), (am_floods, .inl (cJ, 16, .inr (.inl (fun _ => 0))))] s.heap := hP
  have hl := lv_entry ([.ref oM, .int wh]) (n := 2) (Nat.le_of_ble_eq_true rfl)
  rw [lg_entry_eq]
  generalize (lg_sl ([.ref oM, .int wh]) ++ List.replicate (2 - (lg_sl ([.ref oM, .int wh])).length) Slot.unset).toArray = ls at hl ⊢
  have hl : lv_has ls 2 [(0, .ref oM), (1, .int wh)] := hl
  refine lv_aload_n hx hb d_Mo_danger_0 rfl (lv_at hl 0 rfl) ?_
  have hPc := hP.sub (ws' := [(oM, .inr (12, fm))]) [0] rfl
  have hDc := hD.sub (ws' := [(oM, .inr (12, fm))]) [0] (by decide) rfl
  have hFc := pu_free hS hA
  refine va_callv (va_runV (C := R_Mo) (As := []) (rest := []) ⟨hx, hb, hml, hown, hts⟩ (c_Mo_look l dC dI cI cB cZ cJ oM fm hm_things hm_pipes hm_ways s.heap.size) (cwV 0 hts (tb_V mw_2369 mw_2371 sl_145 mw_18 mw_2372) rfl rfl rfl ⟨rfl, by decide +kernel, by decide +kernel, by decide +kernel⟩ ⟨(Nat.le_of_ble_eq_true rfl), (Nat.le_of_ble_eq_true rfl)⟩) ⟨pw_blind, va_recv (q := (R_Mo, F_Mo, 87)) hK.1 hP (ci := 12) (q0 := 0) rfl rfl, pw_pre hPc hK hDc⟩ rfl rfl hl.1 rfl (lv_room (Nat.le_of_ble_eq_true rfl)) d_Mo_danger_1 ⟨(Nat.le_of_ble_eq_true rfl), (Nat.le_of_ble_eq_true rfl)⟩) hS (fun q _ h => hFc q h) hFc (fun u t H locs ht hvm hw hB hz1 hk1 hS => ?_)
  have hP := pu_kept hP hk1
  refine lv_aload_n hx hb d_Mo_danger_4 rfl (lv_at hl 0 rfl) ?_
  have hPc := hP.sub (ws' := [(oM, .inr (12, fm)), (am_floods, .inl (cJ, 16, .inr (.inl (fun _ => 0))))]) [0, 1] rfl
  have hDc := hD.sub (ws' := [(oM, .inr (12, fm)), (am_floods, .inl (cJ, 16, .inr (.inl (fun _ => 0))))]) [0, 1] (by decide) rfl
  have hFc := va_free (wc := [(oM, .inr (12, fm)), (am_floods, .inl (cJ, 16, .inr (.inl (fun _ => 0))))]) hD hS hA [0, 1] rfl
  refine va_calli (va_runV (C := R_Mo) (As := []) (rest := []) ⟨hx, hb, hml, hown, hts⟩ (c_Mo_isSafe l dC dI cI cB cZ cJ oM am_floods fm hm_things hm_pipes hm_floods H.size) (cwV 0 hts (tb_V mw_2381 mw_2383 sl_148 mw_18 mw_2384) rfl rfl rfl ⟨rfl, by decide +kernel, by decide +kernel, by decide +kernel⟩ ⟨(Nat.le_of_ble_eq_true rfl), (Nat.le_of_ble_eq_true rfl)⟩) ⟨pw_blind, va_recv (q := (R_Mo, F_Mo, 87)) hK.1 hP (ci := 12) (q0 := 0) rfl rfl, pw_pre hPc hK hDc⟩ rfl rfl hl.1 rfl (lv_room (Nat.le_of_ble_eq_true rfl)) d_Mo_danger_5 ⟨(Nat.le_of_ble_eq_true rfl), (Nat.le_of_ble_eq_true rfl)⟩) hS (fun q _ h => hFc q h) hFc (fun r u t H locs ht hvm hw hB hz1 hk1 hS => ?_)
  obtain ⟨hP, hD⟩ := va_join (wr := []) (w1 := []) hP hD [0, 1] [] rfl rfl (by decide) (by decide) hk1 hFc wn_P wn_D
  have hP : va_P (dC, dI) classes [] H := hP
  have hD : va_D A [] := hD
  obtain rfl : r = 1 := hw
  refine lv_if_eq (tgt := 21) hx hb d_Mo_danger_8 (by decide) (fun h => absurd h (by decide)) (fun _ => ?_)
  refine lv_iload_n hx hb d_Mo_danger_11 rfl (lv_at hl 1 rfl) ?_
  refine lv_if_ne (tgt := 19) hx hb d_Mo_danger_12 (by decide) (fun h12 => ?_) (fun h12 => ?_)
  · refine lv_iconst (v := (-1)) hx hb d_Mo_danger_19 (by decide) ?_
    exact W.iret (v := (-1)) hx hb hr (fun t ht hW => ⟨⟨_, (), rfl, (by unfold fn_Mo_danger; rw [if_neg h12]), trivial⟩, hS.F ht⟩) hS.2.2 d_Mo_danger_20
  · refine lv_iconst (v := 0) hx hb d_Mo_danger_15 (by decide) ?_
    refine lv_goto (tgt := 20) hx hb d_Mo_danger_16 (by decide) ?_
    exact W.iret (v := 0) hx hb hr (fun t ht hW => ⟨⟨_, (), rfl, (by unfold fn_Mo_danger; rw [if_pos h12]), trivial⟩, hS.F ht⟩) hS.2.2 d_Mo_danger_20
abbrev t_Mo_closeAll_20 : List UInt8 := 177 :: []
abbrev t_Mo_closeAll_17 : List UInt8 := 167 :: 255 :: 239 :: t_Mo_closeAll_20
abbrev t_Mo_closeAll_14 : List UInt8 := 182 :: 1 :: 147 :: t_Mo_closeAll_17
abbrev t_Mo_closeAll_13 : List UInt8 := 100 :: t_Mo_closeAll_14
abbrev t_Mo_closeAll_12 : List UInt8 := 4 :: t_Mo_closeAll_13
abbrev t_Mo_closeAll_9 : List UInt8 := 180 :: 1 :: 28 :: t_Mo_closeAll_12
abbrev t_Mo_closeAll_8 : List UInt8 := 42 :: t_Mo_closeAll_9
abbrev t_Mo_closeAll_7 : List UInt8 := 42 :: t_Mo_closeAll_8
abbrev t_Mo_closeAll_4 : List UInt8 := 158 :: 0 :: 16 :: t_Mo_closeAll_7
abbrev t_Mo_closeAll_1 : List UInt8 := 180 :: 1 :: 28 :: t_Mo_closeAll_4
abbrev t_Mo_closeAll_0 : List UInt8 := 42 :: t_Mo_closeAll_1
theorem a_Mo_closeAll_0 : dk_at b_Mo_closeAll 0 t_Mo_closeAll_0 := dk_start (by decide +kernel)
theorem a_Mo_closeAll_1 : dk_at b_Mo_closeAll 1 t_Mo_closeAll_1 := dk_go 1 a_Mo_closeAll_0 rfl
theorem a_Mo_closeAll_4 : dk_at b_Mo_closeAll 4 t_Mo_closeAll_4 := dk_go 3 a_Mo_closeAll_1 rfl
theorem a_Mo_closeAll_7 : dk_at b_Mo_closeAll 7 t_Mo_closeAll_7 := dk_go 3 a_Mo_closeAll_4 rfl
theorem a_Mo_closeAll_8 : dk_at b_Mo_closeAll 8 t_Mo_closeAll_8 := dk_go 1 a_Mo_closeAll_7 rfl
theorem a_Mo_closeAll_9 : dk_at b_Mo_closeAll 9 t_Mo_closeAll_9 := dk_go 1 a_Mo_closeAll_8 rfl
theorem a_Mo_closeAll_12 : dk_at b_Mo_closeAll 12 t_Mo_closeAll_12 := dk_go 3 a_Mo_closeAll_9 rfl
theorem a_Mo_closeAll_13 : dk_at b_Mo_closeAll 13 t_Mo_closeAll_13 := dk_go 1 a_Mo_closeAll_12 rfl
theorem a_Mo_closeAll_14 : dk_at b_Mo_closeAll 14 t_Mo_closeAll_14 := dk_go 1 a_Mo_closeAll_13 rfl
theorem a_Mo_closeAll_17 : dk_at b_Mo_closeAll 17 t_Mo_closeAll_17 := dk_go 3 a_Mo_closeAll_14 rfl
theorem a_Mo_closeAll_20 : dk_at b_Mo_closeAll 20 t_Mo_closeAll_20 := dk_go 3 a_Mo_closeAll_17 rfl
theorem d_Mo_closeAll_0 : decode b_Mo_closeAll 0 = .ok (.aload_n 0, 1) := dk_0 a_Mo_closeAll_0 (dko_42 _)
theorem d_Mo_closeAll_1 : decode b_Mo_closeAll 1 = .ok (.getfield 284, 3) := dk_U2 a_Mo_closeAll_1 (dko_180 _) rfl
theorem d_Mo_closeAll_4 : decode b_Mo_closeAll 4 = .ok (.ifCond .le 16, 3) := dk_S2 a_Mo_closeAll_4 (dko_158 _) (by decide +kernel)
theorem d_Mo_closeAll_20 : decode b_Mo_closeAll 20 = .ok (.return_, 1) := dk_0 a_Mo_closeAll_20 (dko_177 _)
set_option maxHeartbeats 4000000 in
set_option maxRecDepth 100000 in
theorem c_Mo_closeAll (l : Launch) (dC : Nat → ClassId) (dI : Nat → Nat → Nat) (cI cB cZ cJ : ClassId) (oM : Nat) (fm : List Value) (hm_ways : fx fm 26 (.int 0)) (sz : Nat) : Met l y_Mo_closeAll w_Mo_closeAll ({ frames := 0, cells := 0, slots := 0, locals := 0 }) (va_Pc [.ref oM] (PW dC dI cI cB cZ cJ [(oM, .inr (12, fm))] sz)) (va_Qv (fun _ : Unit => True) (fun _ _ => True) (va_A [] sz)) 0 0 (va_A [] sz) := by
  refine Met.ofW (cc := b_Mo_closeAll) (maxL := 1) (ret := none) (by decide) rfl ?_
  intro p e s m args below meth c s₁ B hml hv
  obtain ⟨rfl, hsz, hP, hK, hD⟩ := hv
  have hx := B.exec
  have hb := B.bytes
  have hr := B.returns
  have hts := atoms_spec (ws := w_Mo_closeAll) B.pre
  have hown : s.vm.findClass R_Mo = some m.cls := findClass_of_methodNamed B.named
  have hlocks := B.notSynchronized
  subst hsz
  generalize hAe : va_A [] s.heap.size = A at ⊢
  have hA : ∀ q : Nat, s.heap.size ≤ q → A q := fun q h => by rw [← hAe]; exact Or.inr h
  have hS : va_S A s.heap s.heap [] := va_S.rf
  have hP : va_P (dC, dI) classes [(oM, .inr (12, fm))] s.heap := hP
  have hl := lv_entry ([.ref oM]) (n := 1) (Nat.le_of_ble_eq_true rfl)
  rw [lg_entry_eq]
  generalize (lg_sl ([.ref oM]) ++ List.replicate (1 - (lg_sl ([.ref oM])).length) Slot.unset).toArray = ls at hl ⊢
  have hl : lv_has ls 1 [(0, .ref oM)] := hl
  refine lv_aload_n hx hb d_Mo_closeAll_0 rfl (lv_at hl 0 rfl) ?_
  refine va_get (D := (dC, dI)) (ci := 12) (v := .int 0) (C := R_Mo) (T := F_Mo) (N := 87) hx hb hts (fun w h => List.mem_cons_of_mem _ (in_Mo w h)) hown hK.1 hP 0 rfl rfl 26 (by decide) (hts _ (List.mem_cons_of_mem _ mw_1820)) (fun _ h9 => h9) hm_ways d_Mo_closeAll_1 ?_
  refine lv_if_le (tgt := 20) hx hb d_Mo_closeAll_4 (by decide) (fun _ => ?_) (fun h => absurd (by decide) h)
  exact W.vret hx hb hr (fun t ht hW => ⟨⟨(), rfl, trivial, trivial⟩, hS.F ht⟩) hS.2.2 d_Mo_closeAll_20
abbrev t_Mo_senseAll_193 : List UInt8 := 177 :: []
abbrev t_Mo_senseAll_190 : List UInt8 := 167 :: 255 :: 129 :: t_Mo_senseAll_193
abbrev t_Mo_senseAll_187 : List UInt8 := 132 :: 1 :: 1 :: t_Mo_senseAll_190
abbrev t_Mo_senseAll_184 : List UInt8 := 181 :: 1 :: 206 :: t_Mo_senseAll_187
abbrev t_Mo_senseAll_183 : List UInt8 := 126 :: t_Mo_senseAll_184
abbrev t_Mo_senseAll_182 : List UInt8 := 130 :: t_Mo_senseAll_183
abbrev t_Mo_senseAll_181 : List UInt8 := 2 :: t_Mo_senseAll_182
abbrev t_Mo_senseAll_180 : List UInt8 := 120 :: t_Mo_senseAll_181
abbrev t_Mo_senseAll_179 : List UInt8 := 27 :: t_Mo_senseAll_180
abbrev t_Mo_senseAll_178 : List UInt8 := 4 :: t_Mo_senseAll_179
abbrev t_Mo_senseAll_175 : List UInt8 := 180 :: 1 :: 206 :: t_Mo_senseAll_178
abbrev t_Mo_senseAll_172 : List UInt8 := 180 :: 0 :: 23 :: t_Mo_senseAll_175
abbrev t_Mo_senseAll_171 : List UInt8 := 42 :: t_Mo_senseAll_172
abbrev t_Mo_senseAll_168 : List UInt8 := 167 :: 0 :: 16 :: t_Mo_senseAll_171
abbrev t_Mo_senseAll_167 : List UInt8 := 128 :: t_Mo_senseAll_168
abbrev t_Mo_senseAll_166 : List UInt8 := 120 :: t_Mo_senseAll_167
abbrev t_Mo_senseAll_165 : List UInt8 := 27 :: t_Mo_senseAll_166
abbrev t_Mo_senseAll_164 : List UInt8 := 4 :: t_Mo_senseAll_165
abbrev t_Mo_senseAll_161 : List UInt8 := 180 :: 1 :: 206 :: t_Mo_senseAll_164
abbrev t_Mo_senseAll_158 : List UInt8 := 180 :: 0 :: 23 :: t_Mo_senseAll_161
abbrev t_Mo_senseAll_157 : List UInt8 := 42 :: t_Mo_senseAll_158
abbrev t_Mo_senseAll_154 : List UInt8 := 153 :: 0 :: 17 :: t_Mo_senseAll_157
abbrev t_Mo_senseAll_152 : List UInt8 := 21 :: 4 :: t_Mo_senseAll_154
abbrev t_Mo_senseAll_149 : List UInt8 := 180 :: 0 :: 23 :: t_Mo_senseAll_152
abbrev t_Mo_senseAll_148 : List UInt8 := 42 :: t_Mo_senseAll_149
abbrev t_Mo_senseAll_146 : List UInt8 := 54 :: 4 :: t_Mo_senseAll_148
abbrev t_Mo_senseAll_145 : List UInt8 := 3 :: t_Mo_senseAll_146
abbrev t_Mo_senseAll_142 : List UInt8 := 167 :: 0 :: 4 :: t_Mo_senseAll_145
abbrev t_Mo_senseAll_141 : List UInt8 := 4 :: t_Mo_senseAll_142
abbrev t_Mo_senseAll_138 : List UInt8 := 155 :: 0 :: 7 :: t_Mo_senseAll_141
abbrev t_Mo_senseAll_137 : List UInt8 := 148 :: t_Mo_senseAll_138
abbrev t_Mo_senseAll_136 : List UInt8 := 47 :: t_Mo_senseAll_137
abbrev t_Mo_senseAll_135 : List UInt8 := 27 :: t_Mo_senseAll_136
abbrev t_Mo_senseAll_132 : List UInt8 := 180 :: 0 :: 156 :: t_Mo_senseAll_135
abbrev t_Mo_senseAll_131 : List UInt8 := 42 :: t_Mo_senseAll_132
abbrev t_Mo_senseAll_130 : List UInt8 := 109 :: t_Mo_senseAll_131
abbrev t_Mo_senseAll_127 : List UInt8 := 20 :: 1 :: 198 :: t_Mo_senseAll_130
abbrev t_Mo_senseAll_126 : List UInt8 := 32 :: t_Mo_senseAll_127
abbrev t_Mo_senseAll_123 : List UInt8 := 155 :: 0 :: 22 :: t_Mo_senseAll_126
abbrev t_Mo_senseAll_122 : List UInt8 := 148 :: t_Mo_senseAll_123
abbrev t_Mo_senseAll_121 : List UInt8 := 9 :: t_Mo_senseAll_122
abbrev t_Mo_senseAll_120 : List UInt8 := 32 :: t_Mo_senseAll_121
abbrev t_Mo_senseAll_117 : List UInt8 := 162 :: 0 :: 28 :: t_Mo_senseAll_120
abbrev t_Mo_senseAll_116 : List UInt8 := 8 :: t_Mo_senseAll_117
abbrev t_Mo_senseAll_115 : List UInt8 := 46 :: t_Mo_senseAll_116
abbrev t_Mo_senseAll_114 : List UInt8 := 27 :: t_Mo_senseAll_115
abbrev t_Mo_senseAll_111 : List UInt8 := 180 :: 0 :: 150 :: t_Mo_senseAll_114
abbrev t_Mo_senseAll_110 : List UInt8 := 42 :: t_Mo_senseAll_111
abbrev t_Mo_senseAll_109 : List UInt8 := 65 :: t_Mo_senseAll_110
abbrev t_Mo_senseAll_108 : List UInt8 := 9 :: t_Mo_senseAll_109
abbrev t_Mo_senseAll_105 : List UInt8 := 167 :: 0 :: 4 :: t_Mo_senseAll_108
abbrev t_Mo_senseAll_102 : List UInt8 := 182 :: 1 :: 202 :: t_Mo_senseAll_105
abbrev t_Mo_senseAll_101 : List UInt8 := 46 :: t_Mo_senseAll_102
abbrev t_Mo_senseAll_100 : List UInt8 := 27 :: t_Mo_senseAll_101
abbrev t_Mo_senseAll_97 : List UInt8 := 180 :: 0 :: 153 :: t_Mo_senseAll_100
abbrev t_Mo_senseAll_96 : List UInt8 := 42 :: t_Mo_senseAll_97
abbrev t_Mo_senseAll_95 : List UInt8 := 46 :: t_Mo_senseAll_96
abbrev t_Mo_senseAll_94 : List UInt8 := 27 :: t_Mo_senseAll_95
abbrev t_Mo_senseAll_91 : List UInt8 := 180 :: 0 :: 150 :: t_Mo_senseAll_94
abbrev t_Mo_senseAll_90 : List UInt8 := 42 :: t_Mo_senseAll_91
abbrev t_Mo_senseAll_89 : List UInt8 := 42 :: t_Mo_senseAll_90
abbrev t_Mo_senseAll_86 : List UInt8 := 162 :: 0 :: 22 :: t_Mo_senseAll_89
abbrev t_Mo_senseAll_85 : List UInt8 := 8 :: t_Mo_senseAll_86
abbrev t_Mo_senseAll_84 : List UInt8 := 46 :: t_Mo_senseAll_85
abbrev t_Mo_senseAll_83 : List UInt8 := 27 :: t_Mo_senseAll_84
abbrev t_Mo_senseAll_80 : List UInt8 := 180 :: 0 :: 150 :: t_Mo_senseAll_83
abbrev t_Mo_senseAll_79 : List UInt8 := 42 :: t_Mo_senseAll_80
abbrev t_Mo_senseAll_76 : List UInt8 := 159 :: 0 :: 111 :: t_Mo_senseAll_79
abbrev t_Mo_senseAll_75 : List UInt8 := 2 :: t_Mo_senseAll_76
abbrev t_Mo_senseAll_74 : List UInt8 := 46 :: t_Mo_senseAll_75
abbrev t_Mo_senseAll_73 : List UInt8 := 27 :: t_Mo_senseAll_74
abbrev t_Mo_senseAll_70 : List UInt8 := 180 :: 0 :: 150 :: t_Mo_senseAll_73
abbrev t_Mo_senseAll_69 : List UInt8 := 42 :: t_Mo_senseAll_70
abbrev t_Mo_senseAll_66 : List UInt8 := 162 :: 0 :: 127 :: t_Mo_senseAll_69
abbrev t_Mo_senseAll_64 : List UInt8 := 16 :: 16 :: t_Mo_senseAll_66
abbrev t_Mo_senseAll_63 : List UInt8 := 27 :: t_Mo_senseAll_64
abbrev t_Mo_senseAll_62 : List UInt8 := 60 :: t_Mo_senseAll_63
abbrev t_Mo_senseAll_61 : List UInt8 := 3 :: t_Mo_senseAll_62
abbrev t_Mo_senseAll_58 : List UInt8 := 167 :: 255 :: 200 :: t_Mo_senseAll_61
abbrev t_Mo_senseAll_55 : List UInt8 := 132 :: 1 :: 1 :: t_Mo_senseAll_58
abbrev t_Mo_senseAll_54 : List UInt8 := 80 :: t_Mo_senseAll_55
abbrev t_Mo_senseAll_51 : List UInt8 := 182 :: 1 :: 202 :: t_Mo_senseAll_54
abbrev t_Mo_senseAll_50 : List UInt8 := 46 :: t_Mo_senseAll_51
abbrev t_Mo_senseAll_49 : List UInt8 := 27 :: t_Mo_senseAll_50
abbrev t_Mo_senseAll_46 : List UInt8 := 180 :: 0 :: 147 :: t_Mo_senseAll_49
abbrev t_Mo_senseAll_45 : List UInt8 := 42 :: t_Mo_senseAll_46
abbrev t_Mo_senseAll_44 : List UInt8 := 46 :: t_Mo_senseAll_45
abbrev t_Mo_senseAll_43 : List UInt8 := 27 :: t_Mo_senseAll_44
abbrev t_Mo_senseAll_40 : List UInt8 := 180 :: 0 :: 144 :: t_Mo_senseAll_43
abbrev t_Mo_senseAll_39 : List UInt8 := 42 :: t_Mo_senseAll_40
abbrev t_Mo_senseAll_38 : List UInt8 := 42 :: t_Mo_senseAll_39
abbrev t_Mo_senseAll_37 : List UInt8 := 27 :: t_Mo_senseAll_38
abbrev t_Mo_senseAll_34 : List UInt8 := 180 :: 0 :: 159 :: t_Mo_senseAll_37
abbrev t_Mo_senseAll_33 : List UInt8 := 42 :: t_Mo_senseAll_34
abbrev t_Mo_senseAll_30 : List UInt8 := 162 :: 0 :: 25 :: t_Mo_senseAll_33
abbrev t_Mo_senseAll_29 : List UInt8 := 8 :: t_Mo_senseAll_30
abbrev t_Mo_senseAll_28 : List UInt8 := 46 :: t_Mo_senseAll_29
abbrev t_Mo_senseAll_27 : List UInt8 := 27 :: t_Mo_senseAll_28
abbrev t_Mo_senseAll_24 : List UInt8 := 180 :: 0 :: 144 :: t_Mo_senseAll_27
abbrev t_Mo_senseAll_23 : List UInt8 := 42 :: t_Mo_senseAll_24
abbrev t_Mo_senseAll_20 : List UInt8 := 159 :: 0 :: 35 :: t_Mo_senseAll_23
abbrev t_Mo_senseAll_19 : List UInt8 := 2 :: t_Mo_senseAll_20
abbrev t_Mo_senseAll_18 : List UInt8 := 46 :: t_Mo_senseAll_19
abbrev t_Mo_senseAll_17 : List UInt8 := 27 :: t_Mo_senseAll_18
abbrev t_Mo_senseAll_14 : List UInt8 := 180 :: 0 :: 144 :: t_Mo_senseAll_17
abbrev t_Mo_senseAll_13 : List UInt8 := 42 :: t_Mo_senseAll_14
abbrev t_Mo_senseAll_10 : List UInt8 := 162 :: 0 :: 51 :: t_Mo_senseAll_13
abbrev t_Mo_senseAll_7 : List UInt8 := 180 :: 1 :: 186 :: t_Mo_senseAll_10
abbrev t_Mo_senseAll_4 : List UInt8 := 180 :: 0 :: 16 :: t_Mo_senseAll_7
abbrev t_Mo_senseAll_3 : List UInt8 := 42 :: t_Mo_senseAll_4
abbrev t_Mo_senseAll_2 : List UInt8 := 27 :: t_Mo_senseAll_3
abbrev t_Mo_senseAll_1 : List UInt8 := 60 :: t_Mo_senseAll_2
abbrev t_Mo_senseAll_0 : List UInt8 := 3 :: t_Mo_senseAll_1
theorem a_Mo_senseAll_0 : dk_at b_Mo_senseAll 0 t_Mo_senseAll_0 := dk_start (by decide +kernel)
theorem a_Mo_senseAll_1 : dk_at b_Mo_senseAll 1 t_Mo_senseAll_1 := dk_go 1 a_Mo_senseAll_0 rfl
theorem a_Mo_senseAll_2 : dk_at b_Mo_senseAll 2 t_Mo_senseAll_2 := dk_go 1 a_Mo_senseAll_1 rfl
theorem a_Mo_senseAll_3 : dk_at b_Mo_senseAll 3 t_Mo_senseAll_3 := dk_go 1 a_Mo_senseAll_2 rfl
theorem a_Mo_senseAll_4 : dk_at b_Mo_senseAll 4 t_Mo_senseAll_4 := dk_go 1 a_Mo_senseAll_3 rfl
theorem a_Mo_senseAll_7 : dk_at b_Mo_senseAll 7 t_Mo_senseAll_7 := dk_go 3 a_Mo_senseAll_4 rfl
theorem a_Mo_senseAll_10 : dk_at b_Mo_senseAll 10 t_Mo_senseAll_10 := dk_go 3 a_Mo_senseAll_7 rfl
theorem a_Mo_senseAll_13 : dk_at b_Mo_senseAll 13 t_Mo_senseAll_13 := dk_go 3 a_Mo_senseAll_10 rfl
theorem a_Mo_senseAll_14 : dk_at b_Mo_senseAll 14 t_Mo_senseAll_14 := dk_go 1 a_Mo_senseAll_13 rfl
theorem a_Mo_senseAll_17 : dk_at b_Mo_senseAll 17 t_Mo_senseAll_17 := dk_go 3 a_Mo_senseAll_14 rfl
theorem a_Mo_senseAll_18 : dk_at b_Mo_senseAll 18 t_Mo_senseAll_18 := dk_go 1 a_Mo_senseAll_17 rfl
theorem a_Mo_senseAll_19 : dk_at b_Mo_senseAll 19 t_Mo_senseAll_19 := dk_go 1 a_Mo_senseAll_18 rfl
theorem a_Mo_senseAll_20 : dk_at b_Mo_senseAll 20 t_Mo_senseAll_20 := dk_go 1 a_Mo_senseAll_19 rfl
theorem a_Mo_senseAll_23 : dk_at b_Mo_senseAll 23 t_Mo_senseAll_23 := dk_go 3 a_Mo_senseAll_20 rfl
theorem a_Mo_senseAll_24 : dk_at b_Mo_senseAll 24 t_Mo_senseAll_24 := dk_go 1 a_Mo_senseAll_23 rfl
theorem a_Mo_senseAll_27 : dk_at b_Mo_senseAll 27 t_Mo_senseAll_27 := dk_go 3 a_Mo_senseAll_24 rfl
theorem a_Mo_senseAll_28 : dk_at b_Mo_senseAll 28 t_Mo_senseAll_28 := dk_go 1 a_Mo_senseAll_27 rfl
theorem a_Mo_senseAll_29 : dk_at b_Mo_senseAll 29 t_Mo_senseAll_29 := dk_go 1 a_Mo_senseAll_28 rfl
theorem a_Mo_senseAll_30 : dk_at b_Mo_senseAll 30 t_Mo_senseAll_30 := dk_go 1 a_Mo_senseAll_29 rfl
theorem a_Mo_senseAll_33 : dk_at b_Mo_senseAll 33 t_Mo_senseAll_33 := dk_go 3 a_Mo_senseAll_30 rfl
theorem a_Mo_senseAll_34 : dk_at b_Mo_senseAll 34 t_Mo_senseAll_34 := dk_go 1 a_Mo_senseAll_33 rfl
theorem a_Mo_senseAll_37 : dk_at b_Mo_senseAll 37 t_Mo_senseAll_37 := dk_go 3 a_Mo_senseAll_34 rfl
theorem a_Mo_senseAll_38 : dk_at b_Mo_senseAll 38 t_Mo_senseAll_38 := dk_go 1 a_Mo_senseAll_37 rfl
theorem a_Mo_senseAll_39 : dk_at b_Mo_senseAll 39 t_Mo_senseAll_39 := dk_go 1 a_Mo_senseAll_38 rfl
theorem a_Mo_senseAll_40 : dk_at b_Mo_senseAll 40 t_Mo_senseAll_40 := dk_go 1 a_Mo_senseAll_39 rfl
theorem a_Mo_senseAll_43 : dk_at b_Mo_senseAll 43 t_Mo_senseAll_43 := dk_go 3 a_Mo_senseAll_40 rfl
theorem a_Mo_senseAll_44 : dk_at b_Mo_senseAll 44 t_Mo_senseAll_44 := dk_go 1 a_Mo_senseAll_43 rfl
theorem a_Mo_senseAll_45 : dk_at b_Mo_senseAll 45 t_Mo_senseAll_45 := dk_go 1 a_Mo_senseAll_44 rfl
theorem a_Mo_senseAll_46 : dk_at b_Mo_senseAll 46 t_Mo_senseAll_46 := dk_go 1 a_Mo_senseAll_45 rfl
theorem a_Mo_senseAll_49 : dk_at b_Mo_senseAll 49 t_Mo_senseAll_49 := dk_go 3 a_Mo_senseAll_46 rfl
theorem a_Mo_senseAll_50 : dk_at b_Mo_senseAll 50 t_Mo_senseAll_50 := dk_go 1 a_Mo_senseAll_49 rfl
theorem a_Mo_senseAll_51 : dk_at b_Mo_senseAll 51 t_Mo_senseAll_51 := dk_go 1 a_Mo_senseAll_50 rfl
theorem a_Mo_senseAll_54 : dk_at b_Mo_senseAll 54 t_Mo_senseAll_54 := dk_go 3 a_Mo_senseAll_51 rfl
theorem a_Mo_senseAll_55 : dk_at b_Mo_senseAll 55 t_Mo_senseAll_55 := dk_go 1 a_Mo_senseAll_54 rfl
theorem a_Mo_senseAll_58 : dk_at b_Mo_senseAll 58 t_Mo_senseAll_58 := dk_go 3 a_Mo_senseAll_55 rfl
theorem a_Mo_senseAll_61 : dk_at b_Mo_senseAll 61 t_Mo_senseAll_61 := dk_go 3 a_Mo_senseAll_58 rfl
theorem a_Mo_senseAll_62 : dk_at b_Mo_senseAll 62 t_Mo_senseAll_62 := dk_go 1 a_Mo_senseAll_61 rfl
theorem a_Mo_senseAll_63 : dk_at b_Mo_senseAll 63 t_Mo_senseAll_63 := dk_go 1 a_Mo_senseAll_62 rfl
theorem a_Mo_senseAll_64 : dk_at b_Mo_senseAll 64 t_Mo_senseAll_64 := dk_go 1 a_Mo_senseAll_63 rfl
theorem a_Mo_senseAll_66 : dk_at b_Mo_senseAll 66 t_Mo_senseAll_66 := dk_go 2 a_Mo_senseAll_64 rfl
theorem a_Mo_senseAll_69 : dk_at b_Mo_senseAll 69 t_Mo_senseAll_69 := dk_go 3 a_Mo_senseAll_66 rfl
theorem a_Mo_senseAll_70 : dk_at b_Mo_senseAll 70 t_Mo_senseAll_70 := dk_go 1 a_Mo_senseAll_69 rfl
theorem a_Mo_senseAll_73 : dk_at b_Mo_senseAll 73 t_Mo_senseAll_73 := dk_go 3 a_Mo_senseAll_70 rfl
theorem a_Mo_senseAll_74 : dk_at b_Mo_senseAll 74 t_Mo_senseAll_74 := dk_go 1 a_Mo_senseAll_73 rfl
theorem a_Mo_senseAll_75 : dk_at b_Mo_senseAll 75 t_Mo_senseAll_75 := dk_go 1 a_Mo_senseAll_74 rfl
theorem a_Mo_senseAll_76 : dk_at b_Mo_senseAll 76 t_Mo_senseAll_76 := dk_go 1 a_Mo_senseAll_75 rfl
theorem a_Mo_senseAll_79 : dk_at b_Mo_senseAll 79 t_Mo_senseAll_79 := dk_go 3 a_Mo_senseAll_76 rfl
theorem a_Mo_senseAll_80 : dk_at b_Mo_senseAll 80 t_Mo_senseAll_80 := dk_go 1 a_Mo_senseAll_79 rfl
theorem a_Mo_senseAll_83 : dk_at b_Mo_senseAll 83 t_Mo_senseAll_83 := dk_go 3 a_Mo_senseAll_80 rfl
theorem a_Mo_senseAll_84 : dk_at b_Mo_senseAll 84 t_Mo_senseAll_84 := dk_go 1 a_Mo_senseAll_83 rfl
theorem a_Mo_senseAll_85 : dk_at b_Mo_senseAll 85 t_Mo_senseAll_85 := dk_go 1 a_Mo_senseAll_84 rfl
theorem a_Mo_senseAll_86 : dk_at b_Mo_senseAll 86 t_Mo_senseAll_86 := dk_go 1 a_Mo_senseAll_85 rfl
theorem a_Mo_senseAll_89 : dk_at b_Mo_senseAll 89 t_Mo_senseAll_89 := dk_go 3 a_Mo_senseAll_86 rfl
theorem a_Mo_senseAll_90 : dk_at b_Mo_senseAll 90 t_Mo_senseAll_90 := dk_go 1 a_Mo_senseAll_89 rfl
theorem a_Mo_senseAll_91 : dk_at b_Mo_senseAll 91 t_Mo_senseAll_91 := dk_go 1 a_Mo_senseAll_90 rfl
theorem a_Mo_senseAll_94 : dk_at b_Mo_senseAll 94 t_Mo_senseAll_94 := dk_go 3 a_Mo_senseAll_91 rfl
theorem a_Mo_senseAll_95 : dk_at b_Mo_senseAll 95 t_Mo_senseAll_95 := dk_go 1 a_Mo_senseAll_94 rfl
theorem a_Mo_senseAll_96 : dk_at b_Mo_senseAll 96 t_Mo_senseAll_96 := dk_go 1 a_Mo_senseAll_95 rfl
theorem a_Mo_senseAll_97 : dk_at b_Mo_senseAll 97 t_Mo_senseAll_97 := dk_go 1 a_Mo_senseAll_96 rfl
theorem a_Mo_senseAll_100 : dk_at b_Mo_senseAll 100 t_Mo_senseAll_100 := dk_go 3 a_Mo_senseAll_97 rfl
theorem a_Mo_senseAll_101 : dk_at b_Mo_senseAll 101 t_Mo_senseAll_101 := dk_go 1 a_Mo_senseAll_100 rfl
theorem a_Mo_senseAll_102 : dk_at b_Mo_senseAll 102 t_Mo_senseAll_102 := dk_go 1 a_Mo_senseAll_101 rfl
theorem a_Mo_senseAll_105 : dk_at b_Mo_senseAll 105 t_Mo_senseAll_105 := dk_go 3 a_Mo_senseAll_102 rfl
theorem a_Mo_senseAll_108 : dk_at b_Mo_senseAll 108 t_Mo_senseAll_108 := dk_go 3 a_Mo_senseAll_105 rfl
theorem a_Mo_senseAll_109 : dk_at b_Mo_senseAll 109 t_Mo_senseAll_109 := dk_go 1 a_Mo_senseAll_108 rfl
theorem a_Mo_senseAll_110 : dk_at b_Mo_senseAll 110 t_Mo_senseAll_110 := dk_go 1 a_Mo_senseAll_109 rfl
theorem a_Mo_senseAll_111 : dk_at b_Mo_senseAll 111 t_Mo_senseAll_111 := dk_go 1 a_Mo_senseAll_110 rfl
theorem a_Mo_senseAll_114 : dk_at b_Mo_senseAll 114 t_Mo_senseAll_114 := dk_go 3 a_Mo_senseAll_111 rfl
theorem a_Mo_senseAll_115 : dk_at b_Mo_senseAll 115 t_Mo_senseAll_115 := dk_go 1 a_Mo_senseAll_114 rfl
theorem a_Mo_senseAll_116 : dk_at b_Mo_senseAll 116 t_Mo_senseAll_116 := dk_go 1 a_Mo_senseAll_115 rfl
theorem a_Mo_senseAll_117 : dk_at b_Mo_senseAll 117 t_Mo_senseAll_117 := dk_go 1 a_Mo_senseAll_116 rfl
theorem a_Mo_senseAll_120 : dk_at b_Mo_senseAll 120 t_Mo_senseAll_120 := dk_go 3 a_Mo_senseAll_117 rfl
theorem a_Mo_senseAll_121 : dk_at b_Mo_senseAll 121 t_Mo_senseAll_121 := dk_go 1 a_Mo_senseAll_120 rfl
theorem a_Mo_senseAll_122 : dk_at b_Mo_senseAll 122 t_Mo_senseAll_122 := dk_go 1 a_Mo_senseAll_121 rfl
theorem a_Mo_senseAll_123 : dk_at b_Mo_senseAll 123 t_Mo_senseAll_123 := dk_go 1 a_Mo_senseAll_122 rfl
theorem a_Mo_senseAll_126 : dk_at b_Mo_senseAll 126 t_Mo_senseAll_126 := dk_go 3 a_Mo_senseAll_123 rfl
theorem a_Mo_senseAll_127 : dk_at b_Mo_senseAll 127 t_Mo_senseAll_127 := dk_go 1 a_Mo_senseAll_126 rfl
theorem a_Mo_senseAll_130 : dk_at b_Mo_senseAll 130 t_Mo_senseAll_130 := dk_go 3 a_Mo_senseAll_127 rfl
theorem a_Mo_senseAll_131 : dk_at b_Mo_senseAll 131 t_Mo_senseAll_131 := dk_go 1 a_Mo_senseAll_130 rfl
theorem a_Mo_senseAll_132 : dk_at b_Mo_senseAll 132 t_Mo_senseAll_132 := dk_go 1 a_Mo_senseAll_131 rfl
theorem a_Mo_senseAll_135 : dk_at b_Mo_senseAll 135 t_Mo_senseAll_135 := dk_go 3 a_Mo_senseAll_132 rfl
theorem a_Mo_senseAll_136 : dk_at b_Mo_senseAll 136 t_Mo_senseAll_136 := dk_go 1 a_Mo_senseAll_135 rfl
theorem a_Mo_senseAll_137 : dk_at b_Mo_senseAll 137 t_Mo_senseAll_137 := dk_go 1 a_Mo_senseAll_136 rfl
theorem a_Mo_senseAll_138 : dk_at b_Mo_senseAll 138 t_Mo_senseAll_138 := dk_go 1 a_Mo_senseAll_137 rfl
theorem a_Mo_senseAll_141 : dk_at b_Mo_senseAll 141 t_Mo_senseAll_141 := dk_go 3 a_Mo_senseAll_138 rfl
theorem a_Mo_senseAll_142 : dk_at b_Mo_senseAll 142 t_Mo_senseAll_142 := dk_go 1 a_Mo_senseAll_141 rfl
theorem a_Mo_senseAll_145 : dk_at b_Mo_senseAll 145 t_Mo_senseAll_145 := dk_go 3 a_Mo_senseAll_142 rfl
theorem a_Mo_senseAll_146 : dk_at b_Mo_senseAll 146 t_Mo_senseAll_146 := dk_go 1 a_Mo_senseAll_145 rfl
theorem a_Mo_senseAll_148 : dk_at b_Mo_senseAll 148 t_Mo_senseAll_148 := dk_go 2 a_Mo_senseAll_146 rfl
theorem a_Mo_senseAll_149 : dk_at b_Mo_senseAll 149 t_Mo_senseAll_149 := dk_go 1 a_Mo_senseAll_148 rfl
theorem a_Mo_senseAll_152 : dk_at b_Mo_senseAll 152 t_Mo_senseAll_152 := dk_go 3 a_Mo_senseAll_149 rfl
theorem a_Mo_senseAll_154 : dk_at b_Mo_senseAll 154 t_Mo_senseAll_154 := dk_go 2 a_Mo_senseAll_152 rfl
theorem a_Mo_senseAll_157 : dk_at b_Mo_senseAll 157 t_Mo_senseAll_157 := dk_go 3 a_Mo_senseAll_154 rfl
theorem a_Mo_senseAll_158 : dk_at b_Mo_senseAll 158 t_Mo_senseAll_158 := dk_go 1 a_Mo_senseAll_157 rfl
theorem a_Mo_senseAll_161 : dk_at b_Mo_senseAll 161 t_Mo_senseAll_161 := dk_go 3 a_Mo_senseAll_158 rfl
theorem a_Mo_senseAll_164 : dk_at b_Mo_senseAll 164 t_Mo_senseAll_164 := dk_go 3 a_Mo_senseAll_161 rfl
theorem a_Mo_senseAll_165 : dk_at b_Mo_senseAll 165 t_Mo_senseAll_165 := dk_go 1 a_Mo_senseAll_164 rfl
theorem a_Mo_senseAll_166 : dk_at b_Mo_senseAll 166 t_Mo_senseAll_166 := dk_go 1 a_Mo_senseAll_165 rfl
theorem a_Mo_senseAll_167 : dk_at b_Mo_senseAll 167 t_Mo_senseAll_167 := dk_go 1 a_Mo_senseAll_166 rfl
theorem a_Mo_senseAll_168 : dk_at b_Mo_senseAll 168 t_Mo_senseAll_168 := dk_go 1 a_Mo_senseAll_167 rfl
theorem a_Mo_senseAll_171 : dk_at b_Mo_senseAll 171 t_Mo_senseAll_171 := dk_go 3 a_Mo_senseAll_168 rfl
theorem a_Mo_senseAll_172 : dk_at b_Mo_senseAll 172 t_Mo_senseAll_172 := dk_go 1 a_Mo_senseAll_171 rfl
theorem a_Mo_senseAll_175 : dk_at b_Mo_senseAll 175 t_Mo_senseAll_175 := dk_go 3 a_Mo_senseAll_172 rfl
theorem a_Mo_senseAll_178 : dk_at b_Mo_senseAll 178 t_Mo_senseAll_178 := dk_go 3 a_Mo_senseAll_175 rfl
theorem a_Mo_senseAll_179 : dk_at b_Mo_senseAll 179 t_Mo_senseAll_179 := dk_go 1 a_Mo_senseAll_178 rfl
theorem a_Mo_senseAll_180 : dk_at b_Mo_senseAll 180 t_Mo_senseAll_180 := dk_go 1 a_Mo_senseAll_179 rfl
theorem a_Mo_senseAll_181 : dk_at b_Mo_senseAll 181 t_Mo_senseAll_181 := dk_go 1 a_Mo_senseAll_180 rfl
theorem a_Mo_senseAll_182 : dk_at b_Mo_senseAll 182 t_Mo_senseAll_182 := dk_go 1 a_Mo_senseAll_181 rfl
theorem a_Mo_senseAll_183 : dk_at b_Mo_senseAll 183 t_Mo_senseAll_183 := dk_go 1 a_Mo_senseAll_182 rfl
theorem a_Mo_senseAll_184 : dk_at b_Mo_senseAll 184 t_Mo_senseAll_184 := dk_go 1 a_Mo_senseAll_183 rfl
theorem a_Mo_senseAll_187 : dk_at b_Mo_senseAll 187 t_Mo_senseAll_187 := dk_go 3 a_Mo_senseAll_184 rfl
theorem a_Mo_senseAll_190 : dk_at b_Mo_senseAll 190 t_Mo_senseAll_190 := dk_go 3 a_Mo_senseAll_187 rfl
theorem a_Mo_senseAll_193 : dk_at b_Mo_senseAll 193 t_Mo_senseAll_193 := dk_go 3 a_Mo_senseAll_190 rfl
theorem d_Mo_senseAll_0 : decode b_Mo_senseAll 0 = .ok (.iconst 0, 1) := dk_0 a_Mo_senseAll_0 (dko_3 _)
theorem d_Mo_senseAll_1 : decode b_Mo_senseAll 1 = .ok (.istore_n 1, 1) := dk_0 a_Mo_senseAll_1 (dko_60 _)
theorem d_Mo_senseAll_2 : decode b_Mo_senseAll 2 = .ok (.iload_n 1, 1) := dk_0 a_Mo_senseAll_2 (dko_27 _)
theorem d_Mo_senseAll_3 : decode b_Mo_senseAll 3 = .ok (.aload_n 0, 1) := dk_0 a_Mo_senseAll_3 (dko_42 _)
theorem d_Mo_senseAll_4 : decode b_Mo_senseAll 4 = .ok (.getfield 16, 3) := dk_U2 a_Mo_senseAll_4 (dko_180 _) rfl
theorem d_Mo_senseAll_7 : decode b_Mo_senseAll 7 = .ok (.getfield 442, 3) := dk_U2 a_Mo_senseAll_7 (dko_180 _) rfl
theorem d_Mo_senseAll_10 : decode b_Mo_senseAll 10 = .ok (.if_icmp .ge 51, 3) := dk_S2 a_Mo_senseAll_10 (dko_162 _) (by decide +kernel)
theorem d_Mo_senseAll_61 : decode b_Mo_senseAll 61 = .ok (.iconst 0, 1) := dk_0 a_Mo_senseAll_61 (dko_3 _)
theorem d_Mo_senseAll_62 : decode b_Mo_senseAll 62 = .ok (.istore_n 1, 1) := dk_0 a_Mo_senseAll_62 (dko_60 _)
theorem d_Mo_senseAll_63 : decode b_Mo_senseAll 63 = .ok (.iload_n 1, 1) := dk_0 a_Mo_senseAll_63 (dko_27 _)
theorem d_Mo_senseAll_64 : decode b_Mo_senseAll 64 = .ok (.bipush 16, 2) := dk_S1 a_Mo_senseAll_64 (dko_16 _) (by decide +kernel)
theorem d_Mo_senseAll_66 : decode b_Mo_senseAll 66 = .ok (.if_icmp .ge 127, 3) := dk_S2 a_Mo_senseAll_66 (dko_162 _) (by decide +kernel)
theorem d_Mo_senseAll_69 : decode b_Mo_senseAll 69 = .ok (.aload_n 0, 1) := dk_0 a_Mo_senseAll_69 (dko_42 _)
theorem d_Mo_senseAll_70 : decode b_Mo_senseAll 70 = .ok (.getfield 150, 3) := dk_U2 a_Mo_senseAll_70 (dko_180 _) rfl
theorem d_Mo_senseAll_73 : decode b_Mo_senseAll 73 = .ok (.iload_n 1, 1) := dk_0 a_Mo_senseAll_73 (dko_27 _)
theorem d_Mo_senseAll_74 : decode b_Mo_senseAll 74 = .ok (.iaload, 1) := dk_0 a_Mo_senseAll_74 (dko_46 _)
theorem d_Mo_senseAll_75 : decode b_Mo_senseAll 75 = .ok (.iconst (-1), 1) := dk_0 a_Mo_senseAll_75 (dko_2 _)
theorem d_Mo_senseAll_76 : decode b_Mo_senseAll 76 = .ok (.if_icmp .eq 111, 3) := dk_S2 a_Mo_senseAll_76 (dko_159 _) (by decide +kernel)
theorem d_Mo_senseAll_187 : decode b_Mo_senseAll 187 = .ok (.iinc 1 1, 3) := dk_US a_Mo_senseAll_187 (dko_132 _) (by decide +kernel)
theorem d_Mo_senseAll_190 : decode b_Mo_senseAll 190 = .ok (.goto (-127), 3) := dk_S2 a_Mo_senseAll_190 (dko_167 _) (by decide +kernel)
theorem d_Mo_senseAll_193 : decode b_Mo_senseAll 193 = .ok (.return_, 1) := dk_0 a_Mo_senseAll_193 (dko_177 _)
set_option maxHeartbeats 4000000 in
set_option maxRecDepth 100000 in
theorem c_Mo_senseAll (l : Launch) (dC : Nat → ClassId) (dI : Nat → Nat → Nat) (cI cB cZ cJ : ClassId) (oM : Nat) (oT : Nat) (am_watchWhat : Nat) (fm : List Value) (hm_program : fx fm 2 (.ref oT)) (hm_watchWhat : fx fm 55 (.ref am_watchWhat)) (ft : List Value) (ht_nameCount : fx ft 32 (.int 0)) (sz : Nat) : Met l y_Mo_senseAll w_Mo_senseAll ({ frames := 0, cells := 0, slots := 0, locals := 0 }) (va_Pc [.ref oM] (PW dC dI cI cB cZ cJ [(oM, .inr (12, fm)), (oT, .inr (13, ft)), (am_watchWhat, .inl (cI, 16, .inl ((fun _ => (-1)))))] sz)) (va_Qv (fun _ : Unit => True) (fun _ _ => True) (va_A [] sz)) 0 0 (va_A [] sz) := by
  refine Met.ofW (cc := b_Mo_senseAll) (maxL := 5) (ret := none) (by decide) rfl ?_
  intro p e s m args below meth c s₁ B hml hv
  obtain ⟨rfl, hsz, hP, hK, hD⟩ := hv
  have hx := B.exec
  have hb := B.bytes
  have hr := B.returns
  have hts := atoms_spec (ws := w_Mo_senseAll) B.pre
  have hown : s.vm.findClass R_Mo = some m.cls := findClass_of_methodNamed B.named
  have hlocks := B.notSynchronized
  subst hsz
  generalize hAe : va_A [] s.heap.size = A at ⊢
  have hA : ∀ q : Nat, s.heap.size ≤ q → A q := fun q h => by rw [← hAe]; exact Or.inr h
  have hS : va_S A s.heap s.heap [] := va_S.rf
  have hP : va_P (dC, dI) classes [(oM, .inr (12, fm)), (oT, .inr (13, ft)), (am_watchWhat, .inl (cI, 16, .inl ((fun _ => (-1)))))] s.heap := hP
  have hl := lv_entry ([.ref oM]) (n := 5) (Nat.le_of_ble_eq_true rfl)
  rw [lg_entry_eq]
  generalize (lg_sl ([.ref oM]) ++ List.replicate (5 - (lg_sl ([.ref oM])).length) Slot.unset).toArray = ls at hl ⊢
  have hl : lv_has ls 5 [(0, .ref oM)] := hl
  refine lv_iconst (v := 0) hx hb d_Mo_senseAll_0 (by decide) ?_
  refine lv_istore_n hx hb d_Mo_senseAll_1 rfl hl (by decide) rfl (fun ls hl => ?_)
  have hl : lv_has ls 5 [(1, .int 0), (0, .ref oM)] := hl
  refine lv_iload_n hx hb d_Mo_senseAll_2 rfl (lv_at hl 0 rfl) ?_
  refine lv_aload_n hx hb d_Mo_senseAll_3 rfl (lv_at hl 1 rfl) ?_
  refine va_get (D := (dC, dI)) (ci := 12) (v := .ref oT) (C := R_Mo) (T := F_Mo) (N := 87) hx hb hts (fun w h => List.mem_cons_of_mem _ (in_Mo w h)) hown hK.1 hP 0 rfl rfl 2 (by decide) (hts _ (List.mem_cons_of_mem _ mw_1796)) (fun _ h9 => h9) hm_program d_Mo_senseAll_4 ?_
  refine va_getN (D := (dC, dI)) (ci := 13) (v := .int 0) (C := R_Tx) (T := F_Tx) (N := 39) hx hb hts (fun w h => List.mem_cons_of_mem _ (in_Tx w h)) hown hK.1 hP 1 rfl rfl 32 (by decide) (va_Nw.use rfl (hK.2 _ nw_1620)) (fun _ h9 => h9) ht_nameCount d_Mo_senseAll_7 ?_
  refine lv_icmp_ge (tgt := 61) hx hb d_Mo_senseAll_10 (by decide) (fun _ => ?_) (fun h => absurd (by decide) h)
  refine lv_iconst (v := 0) hx hb d_Mo_senseAll_61 (by decide) ?_
  refine lv_istore_n hx hb d_Mo_senseAll_62 rfl hl (by decide) rfl (fun ls hl => ?_)
  have hl : lv_has ls 5 [(1, .int 0), (0, .ref oM)] := hl
  refine lv_iload_n hx hb d_Mo_senseAll_63 rfl (lv_at hl 0 rfl) ?_
  refine lv_bipush (v := 16) hx hb d_Mo_senseAll_64 (by decide) ?_
  refine lv_icmp_ge (tgt := 193) hx hb d_Mo_senseAll_66 (by decide) (fun h => absurd h (by decide)) (fun _ => ?_)
  refine lv_aload_n hx hb d_Mo_senseAll_69 rfl (lv_at hl 1 rfl) ?_
  refine va_get (D := (dC, dI)) (ci := 12) (v := .ref am_watchWhat) (C := R_Mo) (T := F_Mo) (N := 87) hx hb hts (fun w h => List.mem_cons_of_mem _ (in_Mo w h)) hown hK.1 hP 0 rfl rfl 55 (by decide) (hts _ (List.mem_cons_of_mem _ mw_1849)) (fun _ h9 => h9) hm_watchWhat d_Mo_senseAll_70 ?_
  refine lv_iload_n hx hb d_Mo_senseAll_73 rfl (lv_at hl 0 rfl) ?_
  refine va_iald hx hb hK.1 hP 2 0 rfl rfl (vp_in_iff.mpr (by decide)) d_Mo_senseAll_74 ?_
  refine lv_iconst (v := (-1)) hx hb d_Mo_senseAll_75 (by decide) ?_
  refine lv_icmp_eq (tgt := 187) hx hb d_Mo_senseAll_76 (by decide) (fun _ => ?_) (fun h => absurd (by decide) h)
  refine lv_iinc (k := 0) (v := 1) hx hb d_Mo_senseAll_187 hl rfl (by first | rfl | decide | exact nI_1 i | exact pv_1 j hj) (by decide) rfl (fun ls hl => ?_)
  have hl : lv_has ls 5 [(1, .int 1), (0, .ref oM)] := hl
  refine lv_goto (tgt := 63) hx hb d_Mo_senseAll_190 (by decide) ?_
  refine lv_iload_n hx hb d_Mo_senseAll_63 rfl (lv_at hl 0 rfl) ?_
  refine lv_bipush (v := 16) hx hb d_Mo_senseAll_64 (by decide) ?_
  refine lv_icmp_ge (tgt := 193) hx hb d_Mo_senseAll_66 (by decide) (fun h => absurd h (by decide)) (fun _ => ?_)
  refine lv_aload_n hx hb d_Mo_senseAll_69 rfl (lv_at hl 1 rfl) ?_
  refine va_get (D := (dC, dI)) (ci := 12) (v := .ref am_watchWhat) (C := R_Mo) (T := F_Mo) (N := 87) hx hb hts (fun w h => List.mem_cons_of_mem _ (in_Mo w h)) hown hK.1 hP 0 rfl rfl 55 (by decide) (hts _ (List.mem_cons_of_mem _ mw_1849)) (fun _ h9 => h9) hm_watchWhat d_Mo_senseAll_70 ?_
  refine lv_iload_n hx hb d_Mo_senseAll_73 rfl (lv_at hl 0 rfl) ?_
  refine va_iald hx hb hK.1 hP 2 0 rfl rfl (vp_in_iff.mpr (by decide)) d_Mo_senseAll_74 ?_
  refine lv_iconst (v := (-1)) hx hb d_Mo_senseAll_75 (by decide) ?_
  refine lv_icmp_eq (tgt := 187) hx hb d_Mo_senseAll_76 (by decide) (fun _ => ?_) (fun h => absurd (by decide) h)
  refine lv_iinc (k := 0) (v := 2) hx hb d_Mo_senseAll_187 hl rfl (by first | rfl | decide | exact nI_1 i | exact pv_1 j hj) (by decide) rfl (fun ls hl => ?_)
  have hl : lv_has ls 5 [(1, .int 2), (0, .ref oM)] := hl
  refine lv_goto (tgt := 63) hx hb d_Mo_senseAll_190 (by decide) ?_
  refine lv_iload_n hx hb d_Mo_senseAll_63 rfl (lv_at hl 0 rfl) ?_
  refine lv_bipush (v := 16) hx hb d_Mo_senseAll_64 (by decide) ?_
  refine lv_icmp_ge (tgt := 193) hx hb d_Mo_senseAll_66 (by decide) (fun h => absurd h (by decide)) (fun _ => ?_)
  refine lv_aload_n hx hb d_Mo_senseAll_69 rfl (lv_at hl 1 rfl) ?_
  refine va_get (D := (dC, dI)) (ci := 12) (v := .ref am_watchWhat) (C := R_Mo) (T := F_Mo) (N := 87) hx hb hts (fun w h => List.mem_cons_of_mem _ (in_Mo w h)) hown hK.1 hP 0 rfl rfl 55 (by decide) (hts _ (List.mem_cons_of_mem _ mw_1849)) (fun _ h9 => h9) hm_watchWhat d_Mo_senseAll_70 ?_
  refine lv_iload_n hx hb d_Mo_senseAll_73 rfl (lv_at hl 0 rfl) ?_
  refine va_iald hx hb hK.1 hP 2 0 rfl rfl (vp_in_iff.mpr (by decide)) d_Mo_senseAll_74 ?_
  refine lv_iconst (v := (-1)) hx hb d_Mo_senseAll_75 (by decide) ?_
  refine lv_icmp_eq (tgt := 187) hx hb d_Mo_senseAll_76 (by decide) (fun _ => ?_) (fun h => absurd (by decide) h)
  refine lv_iinc (k := 0) (v := 3) hx hb d_Mo_senseAll_187 hl rfl (by first | rfl | decide | exact nI_1 i | exact pv_1 j hj) (by decide) rfl (fun ls hl => ?_)
  have hl : lv_has ls 5 [(1, .int 3), (0, .ref oM)] := hl
  refine lv_goto (tgt := 63) hx hb d_Mo_senseAll_190 (by decide) ?_
  refine lv_iload_n hx hb d_Mo_senseAll_63 rfl (lv_at hl 0 rfl) ?_
  refine lv_bipush (v := 16) hx hb d_Mo_senseAll_64 (by decide) ?_
  refine lv_icmp_ge (tgt := 193) hx hb d_Mo_senseAll_66 (by decide) (fun h => absurd h (by decide)) (fun _ => ?_)
  refine lv_aload_n hx hb d_Mo_senseAll_69 rfl (lv_at hl 1 rfl) ?_
  refine va_get (D := (dC, dI)) (ci := 12) (v := .ref am_watchWhat) (C := R_Mo) (T := F_Mo) (N := 87) hx hb hts (fun w h => List.mem_cons_of_mem _ (in_Mo w h)) hown hK.1 hP 0 rfl rfl 55 (by decide) (hts _ (List.mem_cons_of_mem _ mw_1849)) (fun _ h9 => h9) hm_watchWhat d_Mo_senseAll_70 ?_
  refine lv_iload_n hx hb d_Mo_senseAll_73 rfl (lv_at hl 0 rfl) ?_
  refine va_iald hx hb hK.1 hP 2 0 rfl rfl (vp_in_iff.mpr (by decide)) d_Mo_senseAll_74 ?_
  refine lv_iconst (v := (-1)) hx hb d_Mo_senseAll_75 (by decide) ?_
  refine lv_icmp_eq (tgt := 187) hx hb d_Mo_senseAll_76 (by decide) (fun _ => ?_) (fun h => absurd (by decide) h)
  refine lv_iinc (k := 0) (v := 4) hx hb d_Mo_senseAll_187 hl rfl (by first | rfl | decide | exact nI_1 i | exact pv_1 j hj) (by decide) rfl (fun ls hl => ?_)
  have hl : lv_has ls 5 [(1, .int 4), (0, .ref oM)] := hl
  refine lv_goto (tgt := 63) hx hb d_Mo_senseAll_190 (by decide) ?_
  refine lv_iload_n hx hb d_Mo_senseAll_63 rfl (lv_at hl 0 rfl) ?_
  refine lv_bipush (v := 16) hx hb d_Mo_senseAll_64 (by decide) ?_
  refine lv_icmp_ge (tgt := 193) hx hb d_Mo_senseAll_66 (by decide) (fun h => absurd h (by decide)) (fun _ => ?_)
  refine lv_aload_n hx hb d_Mo_senseAll_69 rfl (lv_at hl 1 rfl) ?_
  refine va_get (D := (dC, dI)) (ci := 12) (v := .ref am_watchWhat) (C := R_Mo) (T := F_Mo) (N := 87) hx hb hts (fun w h => List.mem_cons_of_mem _ (in_Mo w h)) hown hK.1 hP 0 rfl rfl 55 (by decide) (hts _ (List.mem_cons_of_mem _ mw_1849)) (fun _ h9 => h9) hm_watchWhat d_Mo_senseAll_70 ?_
  refine lv_iload_n hx hb d_Mo_senseAll_73 rfl (lv_at hl 0 rfl) ?_
  refine va_iald hx hb hK.1 hP 2 0 rfl rfl (vp_in_iff.mpr (by decide)) d_Mo_senseAll_74 ?_
  refine lv_iconst (v := (-1)) hx hb d_Mo_senseAll_75 (by decide) ?_
  refine lv_icmp_eq (tgt := 187) hx hb d_Mo_senseAll_76 (by decide) (fun _ => ?_) (fun h => absurd (by decide) h)
  refine lv_iinc (k := 0) (v := 5) hx hb d_Mo_senseAll_187 hl rfl (by first | rfl | decide | exact nI_1 i | exact pv_1 j hj) (by decide) rfl (fun ls hl => ?_)
  have hl : lv_has ls 5 [(1, .int 5), (0, .ref oM)] := hl
  refine lv_goto (tgt := 63) hx hb d_Mo_senseAll_190 (by decide) ?_
  refine lv_iload_n hx hb d_Mo_senseAll_63 rfl (lv_at hl 0 rfl) ?_
  refine lv_bipush (v := 16) hx hb d_Mo_senseAll_64 (by decide) ?_
  refine lv_icmp_ge (tgt := 193) hx hb d_Mo_senseAll_66 (by decide) (fun h => absurd h (by decide)) (fun _ => ?_)
  refine lv_aload_n hx hb d_Mo_senseAll_69 rfl (lv_at hl 1 rfl) ?_
  refine va_get (D := (dC, dI)) (ci := 12) (v := .ref am_watchWhat) (C := R_Mo) (T := F_Mo) (N := 87) hx hb hts (fun w h => List.mem_cons_of_mem _ (in_Mo w h)) hown hK.1 hP 0 rfl rfl 55 (by decide) (hts _ (List.mem_cons_of_mem _ mw_1849)) (fun _ h9 => h9) hm_watchWhat d_Mo_senseAll_70 ?_
  refine lv_iload_n hx hb d_Mo_senseAll_73 rfl (lv_at hl 0 rfl) ?_
  refine va_iald hx hb hK.1 hP 2 0 rfl rfl (vp_in_iff.mpr (by decide)) d_Mo_senseAll_74 ?_
  refine lv_iconst (v := (-1)) hx hb d_Mo_senseAll_75 (by decide) ?_
  refine lv_icmp_eq (tgt := 187) hx hb d_Mo_senseAll_76 (by decide) (fun _ => ?_) (fun h => absurd (by decide) h)
  refine lv_iinc (k := 0) (v := 6) hx hb d_Mo_senseAll_187 hl rfl (by first | rfl | decide | exact nI_1 i | exact pv_1 j hj) (by decide) rfl (fun ls hl => ?_)
  have hl : lv_has ls 5 [(1, .int 6), (0, .ref oM)] := hl
  refine lv_goto (tgt := 63) hx hb d_Mo_senseAll_190 (by decide) ?_
  refine lv_iload_n hx hb d_Mo_senseAll_63 rfl (lv_at hl 0 rfl) ?_
  refine lv_bipush (v := 16) hx hb d_Mo_senseAll_64 (by decide) ?_
  refine lv_icmp_ge (tgt := 193) hx hb d_Mo_senseAll_66 (by decide) (fun h => absurd h (by decide)) (fun _ => ?_)
  refine lv_aload_n hx hb d_Mo_senseAll_69 rfl (lv_at hl 1 rfl) ?_
  refine va_get (D := (dC, dI)) (ci := 12) (v := .ref am_watchWhat) (C := R_Mo) (T := F_Mo) (N := 87) hx hb hts (fun w h => List.mem_cons_of_mem _ (in_Mo w h)) hown hK.1 hP 0 rfl rfl 55 (by decide) (hts _ (List.mem_cons_of_mem _ mw_1849)) (fun _ h9 => h9) hm_watchWhat d_Mo_senseAll_70 ?_
  refine lv_iload_n hx hb d_Mo_senseAll_73 rfl (lv_at hl 0 rfl) ?_
  refine va_iald hx hb hK.1 hP 2 0 rfl rfl (vp_in_iff.mpr (by decide)) d_Mo_senseAll_74 ?_
  refine lv_iconst (v := (-1)) hx hb d_Mo_senseAll_75 (by decide) ?_
  refine lv_icmp_eq (tgt := 187) hx hb d_Mo_senseAll_76 (by decide) (fun _ => ?_) (fun h => absurd (by decide) h)
  refine lv_iinc (k := 0) (v := 7) hx hb d_Mo_senseAll_187 hl rfl (by first | rfl | decide | exact nI_1 i | exact pv_1 j hj) (by decide) rfl (fun ls hl => ?_)
  have hl : lv_has ls 5 [(1, .int 7), (0, .ref oM)] := hl
  refine lv_goto (tgt := 63) hx hb d_Mo_senseAll_190 (by decide) ?_
  refine lv_iload_n hx hb d_Mo_senseAll_63 rfl (lv_at hl 0 rfl) ?_
  refine lv_bipush (v := 16) hx hb d_Mo_senseAll_64 (by decide) ?_
  refine lv_icmp_ge (tgt := 193) hx hb d_Mo_senseAll_66 (by decide) (fun h => absurd h (by decide)) (fun _ => ?_)
  refine lv_aload_n hx hb d_Mo_senseAll_69 rfl (lv_at hl 1 rfl) ?_
  refine va_get (D := (dC, dI)) (ci := 12) (v := .ref am_watchWhat) (C := R_Mo) (T := F_Mo) (N := 87) hx hb hts (fun w h => List.mem_cons_of_mem _ (in_Mo w h)) hown hK.1 hP 0 rfl rfl 55 (by decide) (hts _ (List.mem_cons_of_mem _ mw_1849)) (fun _ h9 => h9) hm_watchWhat d_Mo_senseAll_70 ?_
  refine lv_iload_n hx hb d_Mo_senseAll_73 rfl (lv_at hl 0 rfl) ?_
  refine va_iald hx hb hK.1 hP 2 0 rfl rfl (vp_in_iff.mpr (by decide)) d_Mo_senseAll_74 ?_
  refine lv_iconst (v := (-1)) hx hb d_Mo_senseAll_75 (by decide) ?_
  refine lv_icmp_eq (tgt := 187) hx hb d_Mo_senseAll_76 (by decide) (fun _ => ?_) (fun h => absurd (by decide) h)
  refine lv_iinc (k := 0) (v := 8) hx hb d_Mo_senseAll_187 hl rfl (by first | rfl | decide | exact nI_1 i | exact pv_1 j hj) (by decide) rfl (fun ls hl => ?_)
  have hl : lv_has ls 5 [(1, .int 8), (0, .ref oM)] := hl
  refine lv_goto (tgt := 63) hx hb d_Mo_senseAll_190 (by decide) ?_
  refine lv_iload_n hx hb d_Mo_senseAll_63 rfl (lv_at hl 0 rfl) ?_
  refine lv_bipush (v := 16) hx hb d_Mo_senseAll_64 (by decide) ?_
  refine lv_icmp_ge (tgt := 193) hx hb d_Mo_senseAll_66 (by decide) (fun h => absurd h (by decide)) (fun _ => ?_)
  refine lv_aload_n hx hb d_Mo_senseAll_69 rfl (lv_at hl 1 rfl) ?_
  refine va_get (D := (dC, dI)) (ci := 12) (v := .ref am_watchWhat) (C := R_Mo) (T := F_Mo) (N := 87) hx hb hts (fun w h => List.mem_cons_of_mem _ (in_Mo w h)) hown hK.1 hP 0 rfl rfl 55 (by decide) (hts _ (List.mem_cons_of_mem _ mw_1849)) (fun _ h9 => h9) hm_watchWhat d_Mo_senseAll_70 ?_
  refine lv_iload_n hx hb d_Mo_senseAll_73 rfl (lv_at hl 0 rfl) ?_
  refine va_iald hx hb hK.1 hP 2 0 rfl rfl (vp_in_iff.mpr (by decide)) d_Mo_senseAll_74 ?_
  refine lv_iconst (v := (-1)) hx hb d_Mo_senseAll_75 (by decide) ?_
  refine lv_icmp_eq (tgt := 187) hx hb d_Mo_senseAll_76 (by decide) (fun _ => ?_) (fun h => absurd (by decide) h)
  refine lv_iinc (k := 0) (v := 9) hx hb d_Mo_senseAll_187 hl rfl (by first | rfl | decide | exact nI_1 i | exact pv_1 j hj) (by decide) rfl (fun ls hl => ?_)
  have hl : lv_has ls 5 [(1, .int 9), (0, .ref oM)] := hl
  refine lv_goto (tgt := 63) hx hb d_Mo_senseAll_190 (by decide) ?_
  refine lv_iload_n hx hb d_Mo_senseAll_63 rfl (lv_at hl 0 rfl) ?_
  refine lv_bipush (v := 16) hx hb d_Mo_senseAll_64 (by decide) ?_
  refine lv_icmp_ge (tgt := 193) hx hb d_Mo_senseAll_66 (by decide) (fun h => absurd h (by decide)) (fun _ => ?_)
  refine lv_aload_n hx hb d_Mo_senseAll_69 rfl (lv_at hl 1 rfl) ?_
  refine va_get (D := (dC, dI)) (ci := 12) (v := .ref am_watchWhat) (C := R_Mo) (T := F_Mo) (N := 87) hx hb hts (fun w h => List.mem_cons_of_mem _ (in_Mo w h)) hown hK.1 hP 0 rfl rfl 55 (by decide) (hts _ (List.mem_cons_of_mem _ mw_1849)) (fun _ h9 => h9) hm_watchWhat d_Mo_senseAll_70 ?_
  refine lv_iload_n hx hb d_Mo_senseAll_73 rfl (lv_at hl 0 rfl) ?_
  refine va_iald hx hb hK.1 hP 2 0 rfl rfl (vp_in_iff.mpr (by decide)) d_Mo_senseAll_74 ?_
  refine lv_iconst (v := (-1)) hx hb d_Mo_senseAll_75 (by decide) ?_
  refine lv_icmp_eq (tgt := 187) hx hb d_Mo_senseAll_76 (by decide) (fun _ => ?_) (fun h => absurd (by decide) h)
  refine lv_iinc (k := 0) (v := 10) hx hb d_Mo_senseAll_187 hl rfl (by first | rfl | decide | exact nI_1 i | exact pv_1 j hj) (by decide) rfl (fun ls hl => ?_)
  have hl : lv_has ls 5 [(1, .int 10), (0, .ref oM)] := hl
  refine lv_goto (tgt := 63) hx hb d_Mo_senseAll_190 (by decide) ?_
  refine lv_iload_n hx hb d_Mo_senseAll_63 rfl (lv_at hl 0 rfl) ?_
  refine lv_bipush (v := 16) hx hb d_Mo_senseAll_64 (by decide) ?_
  refine lv_icmp_ge (tgt := 193) hx hb d_Mo_senseAll_66 (by decide) (fun h => absurd h (by decide)) (fun _ => ?_)
  refine lv_aload_n hx hb d_Mo_senseAll_69 rfl (lv_at hl 1 rfl) ?_
  refine va_get (D := (dC, dI)) (ci := 12) (v := .ref am_watchWhat) (C := R_Mo) (T := F_Mo) (N := 87) hx hb hts (fun w h => List.mem_cons_of_mem _ (in_Mo w h)) hown hK.1 hP 0 rfl rfl 55 (by decide) (hts _ (List.mem_cons_of_mem _ mw_1849)) (fun _ h9 => h9) hm_watchWhat d_Mo_senseAll_70 ?_
  refine lv_iload_n hx hb d_Mo_senseAll_73 rfl (lv_at hl 0 rfl) ?_
  refine va_iald hx hb hK.1 hP 2 0 rfl rfl (vp_in_iff.mpr (by decide)) d_Mo_senseAll_74 ?_
  refine lv_iconst (v := (-1)) hx hb d_Mo_senseAll_75 (by decide) ?_
  refine lv_icmp_eq (tgt := 187) hx hb d_Mo_senseAll_76 (by decide) (fun _ => ?_) (fun h => absurd (by decide) h)
  refine lv_iinc (k := 0) (v := 11) hx hb d_Mo_senseAll_187 hl rfl (by first | rfl | decide | exact nI_1 i | exact pv_1 j hj) (by decide) rfl (fun ls hl => ?_)
  have hl : lv_has ls 5 [(1, .int 11), (0, .ref oM)] := hl
  refine lv_goto (tgt := 63) hx hb d_Mo_senseAll_190 (by decide) ?_
  refine lv_iload_n hx hb d_Mo_senseAll_63 rfl (lv_at hl 0 rfl) ?_
  refine lv_bipush (v := 16) hx hb d_Mo_senseAll_64 (by decide) ?_
  refine lv_icmp_ge (tgt := 193) hx hb d_Mo_senseAll_66 (by decide) (fun h => absurd h (by decide)) (fun _ => ?_)
  refine lv_aload_n hx hb d_Mo_senseAll_69 rfl (lv_at hl 1 rfl) ?_
  refine va_get (D := (dC, dI)) (ci := 12) (v := .ref am_watchWhat) (C := R_Mo) (T := F_Mo) (N := 87) hx hb hts (fun w h => List.mem_cons_of_mem _ (in_Mo w h)) hown hK.1 hP 0 rfl rfl 55 (by decide) (hts _ (List.mem_cons_of_mem _ mw_1849)) (fun _ h9 => h9) hm_watchWhat d_Mo_senseAll_70 ?_
  refine lv_iload_n hx hb d_Mo_senseAll_73 rfl (lv_at hl 0 rfl) ?_
  refine va_iald hx hb hK.1 hP 2 0 rfl rfl (vp_in_iff.mpr (by decide)) d_Mo_senseAll_74 ?_
  refine lv_iconst (v := (-1)) hx hb d_Mo_senseAll_75 (by decide) ?_
  refine lv_icmp_eq (tgt := 187) hx hb d_Mo_senseAll_76 (by decide) (fun _ => ?_) (fun h => absurd (by decide) h)
  refine lv_iinc (k := 0) (v := 12) hx hb d_Mo_senseAll_187 hl rfl (by first | rfl | decide | exact nI_1 i | exact pv_1 j hj) (by decide) rfl (fun ls hl => ?_)
  have hl : lv_has ls 5 [(1, .int 12), (0, .ref oM)] := hl
  refine lv_goto (tgt := 63) hx hb d_Mo_senseAll_190 (by decide) ?_
  refine lv_iload_n hx hb d_Mo_senseAll_63 rfl (lv_at hl 0 rfl) ?_
  refine lv_bipush (v := 16) hx hb d_Mo_senseAll_64 (by decide) ?_
  refine lv_icmp_ge (tgt := 193) hx hb d_Mo_senseAll_66 (by decide) (fun h => absurd h (by decide)) (fun _ => ?_)
  refine lv_aload_n hx hb d_Mo_senseAll_69 rfl (lv_at hl 1 rfl) ?_
  refine va_get (D := (dC, dI)) (ci := 12) (v := .ref am_watchWhat) (C := R_Mo) (T := F_Mo) (N := 87) hx hb hts (fun w h => List.mem_cons_of_mem _ (in_Mo w h)) hown hK.1 hP 0 rfl rfl 55 (by decide) (hts _ (List.mem_cons_of_mem _ mw_1849)) (fun _ h9 => h9) hm_watchWhat d_Mo_senseAll_70 ?_
  refine lv_iload_n hx hb d_Mo_senseAll_73 rfl (lv_at hl 0 rfl) ?_
  refine va_iald hx hb hK.1 hP 2 0 rfl rfl (vp_in_iff.mpr (by decide)) d_Mo_senseAll_74 ?_
  refine lv_iconst (v := (-1)) hx hb d_Mo_senseAll_75 (by decide) ?_
  refine lv_icmp_eq (tgt := 187) hx hb d_Mo_senseAll_76 (by decide) (fun _ => ?_) (fun h => absurd (by decide) h)
  refine lv_iinc (k := 0) (v := 13) hx hb d_Mo_senseAll_187 hl rfl (by first | rfl | decide | exact nI_1 i | exact pv_1 j hj) (by decide) rfl (fun ls hl => ?_)
  have hl : lv_has ls 5 [(1, .int 13), (0, .ref oM)] := hl
  refine lv_goto (tgt := 63) hx hb d_Mo_senseAll_190 (by decide) ?_
  refine lv_iload_n hx hb d_Mo_senseAll_63 rfl (lv_at hl 0 rfl) ?_
  refine lv_bipush (v := 16) hx hb d_Mo_senseAll_64 (by decide) ?_
  refine lv_icmp_ge (tgt := 193) hx hb d_Mo_senseAll_66 (by decide) (fun h => absurd h (by decide)) (fun _ => ?_)
  refine lv_aload_n hx hb d_Mo_senseAll_69 rfl (lv_at hl 1 rfl) ?_
  refine va_get (D := (dC, dI)) (ci := 12) (v := .ref am_watchWhat) (C := R_Mo) (T := F_Mo) (N := 87) hx hb hts (fun w h => List.mem_cons_of_mem _ (in_Mo w h)) hown hK.1 hP 0 rfl rfl 55 (by decide) (hts _ (List.mem_cons_of_mem _ mw_1849)) (fun _ h9 => h9) hm_watchWhat d_Mo_senseAll_70 ?_
  refine lv_iload_n hx hb d_Mo_senseAll_73 rfl (lv_at hl 0 rfl) ?_
  refine va_iald hx hb hK.1 hP 2 0 rfl rfl (vp_in_iff.mpr (by decide)) d_Mo_senseAll_74 ?_
  refine lv_iconst (v := (-1)) hx hb d_Mo_senseAll_75 (by decide) ?_
  refine lv_icmp_eq (tgt := 187) hx hb d_Mo_senseAll_76 (by decide) (fun _ => ?_) (fun h => absurd (by decide) h)
  refine lv_iinc (k := 0) (v := 14) hx hb d_Mo_senseAll_187 hl rfl (by first | rfl | decide | exact nI_1 i | exact pv_1 j hj) (by decide) rfl (fun ls hl => ?_)
  have hl : lv_has ls 5 [(1, .int 14), (0, .ref oM)] := hl
  refine lv_goto (tgt := 63) hx hb d_Mo_senseAll_190 (by decide) ?_
  refine lv_iload_n hx hb d_Mo_senseAll_63 rfl (lv_at hl 0 rfl) ?_
  refine lv_bipush (v := 16) hx hb d_Mo_senseAll_64 (by decide) ?_
  refine lv_icmp_ge (tgt := 193) hx hb d_Mo_senseAll_66 (by decide) (fun h => absurd h (by decide)) (fun _ => ?_)
  refine lv_aload_n hx hb d_Mo_senseAll_69 rfl (lv_at hl 1 rfl) ?_
  refine va_get (D := (dC, dI)) (ci := 12) (v := .ref am_watchWhat) (C := R_Mo) (T := F_Mo) (N := 87) hx hb hts (fun w h => List.mem_cons_of_mem _ (in_Mo w h)) hown hK.1 hP 0 rfl rfl 55 (by decide) (hts _ (List.mem_cons_of_mem _ mw_1849)) (fun _ h9 => h9) hm_watchWhat d_Mo_senseAll_70 ?_
  refine lv_iload_n hx hb d_Mo_senseAll_73 rfl (lv_at hl 0 rfl) ?_
  refine va_iald hx hb hK.1 hP 2 0 rfl rfl (vp_in_iff.mpr (by decide)) d_Mo_senseAll_74 ?_
  refine lv_iconst (v := (-1)) hx hb d_Mo_senseAll_75 (by decide) ?_
  refine lv_icmp_eq (tgt := 187) hx hb d_Mo_senseAll_76 (by decide) (fun _ => ?_) (fun h => absurd (by decide) h)
  refine lv_iinc (k := 0) (v := 15) hx hb d_Mo_senseAll_187 hl rfl (by first | rfl | decide | exact nI_1 i | exact pv_1 j hj) (by decide) rfl (fun ls hl => ?_)
  have hl : lv_has ls 5 [(1, .int 15), (0, .ref oM)] := hl
  refine lv_goto (tgt := 63) hx hb d_Mo_senseAll_190 (by decide) ?_
  refine lv_iload_n hx hb d_Mo_senseAll_63 rfl (lv_at hl 0 rfl) ?_
  refine lv_bipush (v := 16) hx hb d_Mo_senseAll_64 (by decide) ?_
  refine lv_icmp_ge (tgt := 193) hx hb d_Mo_senseAll_66 (by decide) (fun h => absurd h (by decide)) (fun _ => ?_)
  refine lv_aload_n hx hb d_Mo_senseAll_69 rfl (lv_at hl 1 rfl) ?_
  refine va_get (D := (dC, dI)) (ci := 12) (v := .ref am_watchWhat) (C := R_Mo) (T := F_Mo) (N := 87) hx hb hts (fun w h => List.mem_cons_of_mem _ (in_Mo w h)) hown hK.1 hP 0 rfl rfl 55 (by decide) (hts _ (List.mem_cons_of_mem _ mw_1849)) (fun _ h9 => h9) hm_watchWhat d_Mo_senseAll_70 ?_
  refine lv_iload_n hx hb d_Mo_senseAll_73 rfl (lv_at hl 0 rfl) ?_
  refine va_iald hx hb hK.1 hP 2 0 rfl rfl (vp_in_iff.mpr (by decide)) d_Mo_senseAll_74 ?_
  refine lv_iconst (v := (-1)) hx hb d_Mo_senseAll_75 (by decide) ?_
  refine lv_icmp_eq (tgt := 187) hx hb d_Mo_senseAll_76 (by decide) (fun _ => ?_) (fun h => absurd (by decide) h)
  refine lv_iinc (k := 0) (v := 16) hx hb d_Mo_senseAll_187 hl rfl (by first | rfl | decide | exact nI_1 i | exact pv_1 j hj) (by decide) rfl (fun ls hl => ?_)
  have hl : lv_has ls 5 [(1, .int 16), (0, .ref oM)] := hl
  refine lv_goto (tgt := 63) hx hb d_Mo_senseAll_190 (by decide) ?_
  refine lv_iload_n hx hb d_Mo_senseAll_63 rfl (lv_at hl 0 rfl) ?_
  refine lv_bipush (v := 16) hx hb d_Mo_senseAll_64 (by decide) ?_
  refine lv_icmp_ge (tgt := 193) hx hb d_Mo_senseAll_66 (by decide) (fun _ => ?_) (fun h => absurd (by decide) h)
  exact W.vret hx hb hr (fun t ht hW => ⟨⟨(), rfl, trivial, trivial⟩, hS.F ht⟩) hS.2.2 d_Mo_senseAll_193
abbrev t_Mr_tick_165 : List UInt8 := 172 :: []
abbrev t_Mr_tick_164 : List UInt8 := 4 :: t_Mr_tick_165
abbrev t_Mr_tick_161 : List UInt8 := 167 :: 255 :: 109 :: t_Mr_tick_164
abbrev t_Mr_tick_158 : List UInt8 := 132 :: 2 :: 1 :: t_Mr_tick_161
abbrev t_Mr_tick_157 : List UInt8 := 79 :: t_Mr_tick_158
abbrev t_Mr_tick_156 : List UInt8 := 3 :: t_Mr_tick_157
abbrev t_Mr_tick_153 : List UInt8 := 167 :: 0 :: 4 :: t_Mr_tick_156
abbrev t_Mr_tick_152 : List UInt8 := 100 :: t_Mr_tick_153
abbrev t_Mr_tick_151 : List UInt8 := 27 :: t_Mr_tick_152
abbrev t_Mr_tick_150 : List UInt8 := 46 :: t_Mr_tick_151
abbrev t_Mr_tick_149 : List UInt8 := 28 :: t_Mr_tick_150
abbrev t_Mr_tick_146 : List UInt8 := 180 :: 0 :: 56 :: t_Mr_tick_149
abbrev t_Mr_tick_145 : List UInt8 := 42 :: t_Mr_tick_146
abbrev t_Mr_tick_142 : List UInt8 := 164 :: 0 :: 14 :: t_Mr_tick_145
abbrev t_Mr_tick_141 : List UInt8 := 27 :: t_Mr_tick_142
abbrev t_Mr_tick_140 : List UInt8 := 46 :: t_Mr_tick_141
abbrev t_Mr_tick_139 : List UInt8 := 28 :: t_Mr_tick_140
abbrev t_Mr_tick_136 : List UInt8 := 180 :: 0 :: 56 :: t_Mr_tick_139
abbrev t_Mr_tick_135 : List UInt8 := 42 :: t_Mr_tick_136
abbrev t_Mr_tick_134 : List UInt8 := 28 :: t_Mr_tick_135
abbrev t_Mr_tick_131 : List UInt8 := 180 :: 0 :: 56 :: t_Mr_tick_134
abbrev t_Mr_tick_130 : List UInt8 := 42 :: t_Mr_tick_131
abbrev t_Mr_tick_129 : List UInt8 := 84 :: t_Mr_tick_130
abbrev t_Mr_tick_128 : List UInt8 := 128 :: t_Mr_tick_129
abbrev t_Mr_tick_127 : List UInt8 := 3 :: t_Mr_tick_128
abbrev t_Mr_tick_124 : List UInt8 := 167 :: 0 :: 4 :: t_Mr_tick_127
abbrev t_Mr_tick_123 : List UInt8 := 4 :: t_Mr_tick_124
abbrev t_Mr_tick_120 : List UInt8 := 161 :: 0 :: 7 :: t_Mr_tick_123
abbrev t_Mr_tick_119 : List UInt8 := 46 :: t_Mr_tick_120
abbrev t_Mr_tick_118 : List UInt8 := 96 :: t_Mr_tick_119
abbrev t_Mr_tick_117 : List UInt8 := 28 :: t_Mr_tick_118
abbrev t_Mr_tick_116 : List UInt8 := 104 :: t_Mr_tick_117
abbrev t_Mr_tick_113 : List UInt8 := 180 :: 0 :: 85 :: t_Mr_tick_116
abbrev t_Mr_tick_112 : List UInt8 := 42 :: t_Mr_tick_113
abbrev t_Mr_tick_110 : List UInt8 := 16 :: 40 :: t_Mr_tick_112
abbrev t_Mr_tick_107 : List UInt8 := 180 :: 0 :: 40 :: t_Mr_tick_110
abbrev t_Mr_tick_106 : List UInt8 := 42 :: t_Mr_tick_107
abbrev t_Mr_tick_105 : List UInt8 := 46 :: t_Mr_tick_106
abbrev t_Mr_tick_104 : List UInt8 := 28 :: t_Mr_tick_105
abbrev t_Mr_tick_101 : List UInt8 := 180 :: 0 :: 50 :: t_Mr_tick_104
abbrev t_Mr_tick_100 : List UInt8 := 42 :: t_Mr_tick_101
abbrev t_Mr_tick_97 : List UInt8 := 153 :: 0 :: 30 :: t_Mr_tick_100
abbrev t_Mr_tick_96 : List UInt8 := 51 :: t_Mr_tick_97
abbrev t_Mr_tick_95 : List UInt8 := 96 :: t_Mr_tick_96
abbrev t_Mr_tick_94 : List UInt8 := 28 :: t_Mr_tick_95
abbrev t_Mr_tick_93 : List UInt8 := 104 :: t_Mr_tick_94
abbrev t_Mr_tick_90 : List UInt8 := 180 :: 0 :: 85 :: t_Mr_tick_93
abbrev t_Mr_tick_89 : List UInt8 := 42 :: t_Mr_tick_90
abbrev t_Mr_tick_87 : List UInt8 := 16 :: 40 :: t_Mr_tick_89
abbrev t_Mr_tick_84 : List UInt8 := 180 :: 0 :: 43 :: t_Mr_tick_87
abbrev t_Mr_tick_83 : List UInt8 := 42 :: t_Mr_tick_84
abbrev t_Mr_tick_80 : List UInt8 := 153 :: 0 :: 47 :: t_Mr_tick_83
abbrev t_Mr_tick_79 : List UInt8 := 29 :: t_Mr_tick_80
abbrev t_Mr_tick_78 : List UInt8 := 51 :: t_Mr_tick_79
abbrev t_Mr_tick_77 : List UInt8 := 92 :: t_Mr_tick_78
abbrev t_Mr_tick_76 : List UInt8 := 28 :: t_Mr_tick_77
abbrev t_Mr_tick_73 : List UInt8 := 180 :: 0 :: 53 :: t_Mr_tick_76
abbrev t_Mr_tick_72 : List UInt8 := 42 :: t_Mr_tick_73
abbrev t_Mr_tick_71 : List UInt8 := 79 :: t_Mr_tick_72
abbrev t_Mr_tick_70 : List UInt8 := 96 :: t_Mr_tick_71
abbrev t_Mr_tick_69 : List UInt8 := 27 :: t_Mr_tick_70
abbrev t_Mr_tick_68 : List UInt8 := 46 :: t_Mr_tick_69
abbrev t_Mr_tick_67 : List UInt8 := 28 :: t_Mr_tick_68
abbrev t_Mr_tick_64 : List UInt8 := 180 :: 0 :: 50 :: t_Mr_tick_67
abbrev t_Mr_tick_63 : List UInt8 := 42 :: t_Mr_tick_64
abbrev t_Mr_tick_60 : List UInt8 := 167 :: 0 :: 11 :: t_Mr_tick_63
abbrev t_Mr_tick_58 : List UInt8 := 18 :: 146 :: t_Mr_tick_60
abbrev t_Mr_tick_55 : List UInt8 := 164 :: 0 :: 8 :: t_Mr_tick_58
abbrev t_Mr_tick_53 : List UInt8 := 18 :: 146 :: t_Mr_tick_55
abbrev t_Mr_tick_52 : List UInt8 := 96 :: t_Mr_tick_53
abbrev t_Mr_tick_51 : List UInt8 := 27 :: t_Mr_tick_52
abbrev t_Mr_tick_50 : List UInt8 := 46 :: t_Mr_tick_51
abbrev t_Mr_tick_49 : List UInt8 := 28 :: t_Mr_tick_50
abbrev t_Mr_tick_46 : List UInt8 := 180 :: 0 :: 50 :: t_Mr_tick_49
abbrev t_Mr_tick_45 : List UInt8 := 42 :: t_Mr_tick_46
abbrev t_Mr_tick_42 : List UInt8 := 167 :: 0 :: 29 :: t_Mr_tick_45
abbrev t_Mr_tick_41 : List UInt8 := 3 :: t_Mr_tick_42
abbrev t_Mr_tick_38 : List UInt8 := 154 :: 0 :: 7 :: t_Mr_tick_41
abbrev t_Mr_tick_37 : List UInt8 := 29 :: t_Mr_tick_38
abbrev t_Mr_tick_36 : List UInt8 := 28 :: t_Mr_tick_37
abbrev t_Mr_tick_33 : List UInt8 := 180 :: 0 :: 50 :: t_Mr_tick_36
abbrev t_Mr_tick_32 : List UInt8 := 42 :: t_Mr_tick_33
abbrev t_Mr_tick_31 : List UInt8 := 62 :: t_Mr_tick_32
abbrev t_Mr_tick_28 : List UInt8 := 182 :: 0 :: 143 :: t_Mr_tick_31
abbrev t_Mr_tick_27 : List UInt8 := 28 :: t_Mr_tick_28
abbrev t_Mr_tick_26 : List UInt8 := 42 :: t_Mr_tick_27
abbrev t_Mr_tick_23 : List UInt8 := 158 :: 0 :: 141 :: t_Mr_tick_26
abbrev t_Mr_tick_22 : List UInt8 := 27 :: t_Mr_tick_23
abbrev t_Mr_tick_19 : List UInt8 := 162 :: 0 :: 145 :: t_Mr_tick_22
abbrev t_Mr_tick_16 : List UInt8 := 180 :: 0 :: 133 :: t_Mr_tick_19
abbrev t_Mr_tick_15 : List UInt8 := 42 :: t_Mr_tick_16
abbrev t_Mr_tick_14 : List UInt8 := 28 :: t_Mr_tick_15
abbrev t_Mr_tick_13 : List UInt8 := 61 :: t_Mr_tick_14
abbrev t_Mr_tick_12 : List UInt8 := 3 :: t_Mr_tick_13
abbrev t_Mr_tick_11 : List UInt8 := 172 :: t_Mr_tick_12
abbrev t_Mr_tick_10 : List UInt8 := 3 :: t_Mr_tick_11
abbrev t_Mr_tick_7 : List UInt8 := 164 :: 0 :: 5 :: t_Mr_tick_10
abbrev t_Mr_tick_5 : List UInt8 := 18 :: 142 :: t_Mr_tick_7
abbrev t_Mr_tick_4 : List UInt8 := 27 :: t_Mr_tick_5
abbrev t_Mr_tick_1 : List UInt8 := 155 :: 0 :: 9 :: t_Mr_tick_4
abbrev t_Mr_tick_0 : List UInt8 := 27 :: t_Mr_tick_1
theorem a_Mr_tick_0 : dk_at b_Mr_tick 0 t_Mr_tick_0 := dk_start (by decide +kernel)
theorem a_Mr_tick_1 : dk_at b_Mr_tick 1 t_Mr_tick_1 := dk_go 1 a_Mr_tick_0 rfl
theorem a_Mr_tick_4 : dk_at b_Mr_tick 4 t_Mr_tick_4 := dk_go 3 a_Mr_tick_1 rfl
theorem a_Mr_tick_5 : dk_at b_Mr_tick 5 t_Mr_tick_5 := dk_go 1 a_Mr_tick_4 rfl
theorem a_Mr_tick_7 : dk_at b_Mr_tick 7 t_Mr_tick_7 := dk_go 2 a_Mr_tick_5 rfl
theorem a_Mr_tick_10 : dk_at b_Mr_tick 10 t_Mr_tick_10 := dk_go 3 a_Mr_tick_7 rfl
theorem a_Mr_tick_11 : dk_at b_Mr_tick 11 t_Mr_tick_11 := dk_go 1 a_Mr_tick_10 rfl
theorem a_Mr_tick_12 : dk_at b_Mr_tick 12 t_Mr_tick_12 := dk_go 1 a_Mr_tick_11 rfl
theorem a_Mr_tick_13 : dk_at b_Mr_tick 13 t_Mr_tick_13 := dk_go 1 a_Mr_tick_12 rfl
theorem a_Mr_tick_14 : dk_at b_Mr_tick 14 t_Mr_tick_14 := dk_go 1 a_Mr_tick_13 rfl
theorem a_Mr_tick_15 : dk_at b_Mr_tick 15 t_Mr_tick_15 := dk_go 1 a_Mr_tick_14 rfl
theorem a_Mr_tick_16 : dk_at b_Mr_tick 16 t_Mr_tick_16 := dk_go 1 a_Mr_tick_15 rfl
theorem a_Mr_tick_19 : dk_at b_Mr_tick 19 t_Mr_tick_19 := dk_go 3 a_Mr_tick_16 rfl
theorem a_Mr_tick_22 : dk_at b_Mr_tick 22 t_Mr_tick_22 := dk_go 3 a_Mr_tick_19 rfl
theorem a_Mr_tick_23 : dk_at b_Mr_tick 23 t_Mr_tick_23 := dk_go 1 a_Mr_tick_22 rfl
theorem a_Mr_tick_26 : dk_at b_Mr_tick 26 t_Mr_tick_26 := dk_go 3 a_Mr_tick_23 rfl
theorem a_Mr_tick_27 : dk_at b_Mr_tick 27 t_Mr_tick_27 := dk_go 1 a_Mr_tick_26 rfl
theorem a_Mr_tick_28 : dk_at b_Mr_tick 28 t_Mr_tick_28 := dk_go 1 a_Mr_tick_27 rfl
theorem a_Mr_tick_31 : dk_at b_Mr_tick 31 t_Mr_tick_31 := dk_go 3 a_Mr_tick_28 rfl
theorem a_Mr_tick_32 : dk_at b_Mr_tick 32 t_Mr_tick_32 := dk_go 1 a_Mr_tick_31 rfl
theorem a_Mr_tick_33 : dk_at b_Mr_tick 33 t_Mr_tick_33 := dk_go 1 a_Mr_tick_32 rfl
theorem a_Mr_tick_36 : dk_at b_Mr_tick 36 t_Mr_tick_36 := dk_go 3 a_Mr_tick_33 rfl
theorem a_Mr_tick_37 : dk_at b_Mr_tick 37 t_Mr_tick_37 := dk_go 1 a_Mr_tick_36 rfl
theorem a_Mr_tick_38 : dk_at b_Mr_tick 38 t_Mr_tick_38 := dk_go 1 a_Mr_tick_37 rfl
theorem a_Mr_tick_41 : dk_at b_Mr_tick 41 t_Mr_tick_41 := dk_go 3 a_Mr_tick_38 rfl
theorem a_Mr_tick_42 : dk_at b_Mr_tick 42 t_Mr_tick_42 := dk_go 1 a_Mr_tick_41 rfl
theorem a_Mr_tick_45 : dk_at b_Mr_tick 45 t_Mr_tick_45 := dk_go 3 a_Mr_tick_42 rfl
theorem a_Mr_tick_46 : dk_at b_Mr_tick 46 t_Mr_tick_46 := dk_go 1 a_Mr_tick_45 rfl
theorem a_Mr_tick_49 : dk_at b_Mr_tick 49 t_Mr_tick_49 := dk_go 3 a_Mr_tick_46 rfl
theorem a_Mr_tick_50 : dk_at b_Mr_tick 50 t_Mr_tick_50 := dk_go 1 a_Mr_tick_49 rfl
theorem a_Mr_tick_51 : dk_at b_Mr_tick 51 t_Mr_tick_51 := dk_go 1 a_Mr_tick_50 rfl
theorem a_Mr_tick_52 : dk_at b_Mr_tick 52 t_Mr_tick_52 := dk_go 1 a_Mr_tick_51 rfl
theorem a_Mr_tick_53 : dk_at b_Mr_tick 53 t_Mr_tick_53 := dk_go 1 a_Mr_tick_52 rfl
theorem a_Mr_tick_55 : dk_at b_Mr_tick 55 t_Mr_tick_55 := dk_go 2 a_Mr_tick_53 rfl
theorem a_Mr_tick_58 : dk_at b_Mr_tick 58 t_Mr_tick_58 := dk_go 3 a_Mr_tick_55 rfl
theorem a_Mr_tick_60 : dk_at b_Mr_tick 60 t_Mr_tick_60 := dk_go 2 a_Mr_tick_58 rfl
theorem a_Mr_tick_63 : dk_at b_Mr_tick 63 t_Mr_tick_63 := dk_go 3 a_Mr_tick_60 rfl
theorem a_Mr_tick_64 : dk_at b_Mr_tick 64 t_Mr_tick_64 := dk_go 1 a_Mr_tick_63 rfl
theorem a_Mr_tick_67 : dk_at b_Mr_tick 67 t_Mr_tick_67 := dk_go 3 a_Mr_tick_64 rfl
theorem a_Mr_tick_68 : dk_at b_Mr_tick 68 t_Mr_tick_68 := dk_go 1 a_Mr_tick_67 rfl
theorem a_Mr_tick_69 : dk_at b_Mr_tick 69 t_Mr_tick_69 := dk_go 1 a_Mr_tick_68 rfl
theorem a_Mr_tick_70 : dk_at b_Mr_tick 70 t_Mr_tick_70 := dk_go 1 a_Mr_tick_69 rfl
theorem a_Mr_tick_71 : dk_at b_Mr_tick 71 t_Mr_tick_71 := dk_go 1 a_Mr_tick_70 rfl
theorem a_Mr_tick_72 : dk_at b_Mr_tick 72 t_Mr_tick_72 := dk_go 1 a_Mr_tick_71 rfl
theorem a_Mr_tick_73 : dk_at b_Mr_tick 73 t_Mr_tick_73 := dk_go 1 a_Mr_tick_72 rfl
theorem a_Mr_tick_76 : dk_at b_Mr_tick 76 t_Mr_tick_76 := dk_go 3 a_Mr_tick_73 rfl
theorem a_Mr_tick_77 : dk_at b_Mr_tick 77 t_Mr_tick_77 := dk_go 1 a_Mr_tick_76 rfl
theorem a_Mr_tick_78 : dk_at b_Mr_tick 78 t_Mr_tick_78 := dk_go 1 a_Mr_tick_77 rfl
theorem a_Mr_tick_79 : dk_at b_Mr_tick 79 t_Mr_tick_79 := dk_go 1 a_Mr_tick_78 rfl
theorem a_Mr_tick_80 : dk_at b_Mr_tick 80 t_Mr_tick_80 := dk_go 1 a_Mr_tick_79 rfl
theorem a_Mr_tick_83 : dk_at b_Mr_tick 83 t_Mr_tick_83 := dk_go 3 a_Mr_tick_80 rfl
theorem a_Mr_tick_84 : dk_at b_Mr_tick 84 t_Mr_tick_84 := dk_go 1 a_Mr_tick_83 rfl
theorem a_Mr_tick_87 : dk_at b_Mr_tick 87 t_Mr_tick_87 := dk_go 3 a_Mr_tick_84 rfl
theorem a_Mr_tick_89 : dk_at b_Mr_tick 89 t_Mr_tick_89 := dk_go 2 a_Mr_tick_87 rfl
theorem a_Mr_tick_90 : dk_at b_Mr_tick 90 t_Mr_tick_90 := dk_go 1 a_Mr_tick_89 rfl
theorem a_Mr_tick_93 : dk_at b_Mr_tick 93 t_Mr_tick_93 := dk_go 3 a_Mr_tick_90 rfl
theorem a_Mr_tick_94 : dk_at b_Mr_tick 94 t_Mr_tick_94 := dk_go 1 a_Mr_tick_93 rfl
theorem a_Mr_tick_95 : dk_at b_Mr_tick 95 t_Mr_tick_95 := dk_go 1 a_Mr_tick_94 rfl
theorem a_Mr_tick_96 : dk_at b_Mr_tick 96 t_Mr_tick_96 := dk_go 1 a_Mr_tick_95 rfl
theorem a_Mr_tick_97 : dk_at b_Mr_tick 97 t_Mr_tick_97 := dk_go 1 a_Mr_tick_96 rfl
theorem a_Mr_tick_100 : dk_at b_Mr_tick 100 t_Mr_tick_100 := dk_go 3 a_Mr_tick_97 rfl
theorem a_Mr_tick_101 : dk_at b_Mr_tick 101 t_Mr_tick_101 := dk_go 1 a_Mr_tick_100 rfl
theorem a_Mr_tick_104 : dk_at b_Mr_tick 104 t_Mr_tick_104 := dk_go 3 a_Mr_tick_101 rfl
theorem a_Mr_tick_105 : dk_at b_Mr_tick 105 t_Mr_tick_105 := dk_go 1 a_Mr_tick_104 rfl
theorem a_Mr_tick_106 : dk_at b_Mr_tick 106 t_Mr_tick_106 := dk_go 1 a_Mr_tick_105 rfl
theorem a_Mr_tick_107 : dk_at b_Mr_tick 107 t_Mr_tick_107 := dk_go 1 a_Mr_tick_106 rfl
theorem a_Mr_tick_110 : dk_at b_Mr_tick 110 t_Mr_tick_110 := dk_go 3 a_Mr_tick_107 rfl
theorem a_Mr_tick_112 : dk_at b_Mr_tick 112 t_Mr_tick_112 := dk_go 2 a_Mr_tick_110 rfl
theorem a_Mr_tick_113 : dk_at b_Mr_tick 113 t_Mr_tick_113 := dk_go 1 a_Mr_tick_112 rfl
theorem a_Mr_tick_116 : dk_at b_Mr_tick 116 t_Mr_tick_116 := dk_go 3 a_Mr_tick_113 rfl
theorem a_Mr_tick_117 : dk_at b_Mr_tick 117 t_Mr_tick_117 := dk_go 1 a_Mr_tick_116 rfl
theorem a_Mr_tick_118 : dk_at b_Mr_tick 118 t_Mr_tick_118 := dk_go 1 a_Mr_tick_117 rfl
theorem a_Mr_tick_119 : dk_at b_Mr_tick 119 t_Mr_tick_119 := dk_go 1 a_Mr_tick_118 rfl
theorem a_Mr_tick_120 : dk_at b_Mr_tick 120 t_Mr_tick_120 := dk_go 1 a_Mr_tick_119 rfl
theorem a_Mr_tick_123 : dk_at b_Mr_tick 123 t_Mr_tick_123 := dk_go 3 a_Mr_tick_120 rfl
theorem a_Mr_tick_124 : dk_at b_Mr_tick 124 t_Mr_tick_124 := dk_go 1 a_Mr_tick_123 rfl
theorem a_Mr_tick_127 : dk_at b_Mr_tick 127 t_Mr_tick_127 := dk_go 3 a_Mr_tick_124 rfl
theorem a_Mr_tick_128 : dk_at b_Mr_tick 128 t_Mr_tick_128 := dk_go 1 a_Mr_tick_127 rfl
theorem a_Mr_tick_129 : dk_at b_Mr_tick 129 t_Mr_tick_129 := dk_go 1 a_Mr_tick_128 rfl
theorem a_Mr_tick_130 : dk_at b_Mr_tick 130 t_Mr_tick_130 := dk_go 1 a_Mr_tick_129 rfl
theorem a_Mr_tick_131 : dk_at b_Mr_tick 131 t_Mr_tick_131 := dk_go 1 a_Mr_tick_130 rfl
theorem a_Mr_tick_134 : dk_at b_Mr_tick 134 t_Mr_tick_134 := dk_go 3 a_Mr_tick_131 rfl
theorem a_Mr_tick_135 : dk_at b_Mr_tick 135 t_Mr_tick_135 := dk_go 1 a_Mr_tick_134 rfl
theorem a_Mr_tick_136 : dk_at b_Mr_tick 136 t_Mr_tick_136 := dk_go 1 a_Mr_tick_135 rfl
theorem a_Mr_tick_139 : dk_at b_Mr_tick 139 t_Mr_tick_139 := dk_go 3 a_Mr_tick_136 rfl
theorem a_Mr_tick_140 : dk_at b_Mr_tick 140 t_Mr_tick_140 := dk_go 1 a_Mr_tick_139 rfl
theorem a_Mr_tick_141 : dk_at b_Mr_tick 141 t_Mr_tick_141 := dk_go 1 a_Mr_tick_140 rfl
theorem a_Mr_tick_142 : dk_at b_Mr_tick 142 t_Mr_tick_142 := dk_go 1 a_Mr_tick_141 rfl
theorem a_Mr_tick_145 : dk_at b_Mr_tick 145 t_Mr_tick_145 := dk_go 3 a_Mr_tick_142 rfl
theorem a_Mr_tick_146 : dk_at b_Mr_tick 146 t_Mr_tick_146 := dk_go 1 a_Mr_tick_145 rfl
theorem a_Mr_tick_149 : dk_at b_Mr_tick 149 t_Mr_tick_149 := dk_go 3 a_Mr_tick_146 rfl
theorem a_Mr_tick_150 : dk_at b_Mr_tick 150 t_Mr_tick_150 := dk_go 1 a_Mr_tick_149 rfl
theorem a_Mr_tick_151 : dk_at b_Mr_tick 151 t_Mr_tick_151 := dk_go 1 a_Mr_tick_150 rfl
theorem a_Mr_tick_152 : dk_at b_Mr_tick 152 t_Mr_tick_152 := dk_go 1 a_Mr_tick_151 rfl
theorem a_Mr_tick_153 : dk_at b_Mr_tick 153 t_Mr_tick_153 := dk_go 1 a_Mr_tick_152 rfl
theorem a_Mr_tick_156 : dk_at b_Mr_tick 156 t_Mr_tick_156 := dk_go 3 a_Mr_tick_153 rfl
theorem a_Mr_tick_157 : dk_at b_Mr_tick 157 t_Mr_tick_157 := dk_go 1 a_Mr_tick_156 rfl
theorem a_Mr_tick_158 : dk_at b_Mr_tick 158 t_Mr_tick_158 := dk_go 1 a_Mr_tick_157 rfl
theorem a_Mr_tick_161 : dk_at b_Mr_tick 161 t_Mr_tick_161 := dk_go 3 a_Mr_tick_158 rfl
theorem a_Mr_tick_164 : dk_at b_Mr_tick 164 t_Mr_tick_164 := dk_go 3 a_Mr_tick_161 rfl
theorem a_Mr_tick_165 : dk_at b_Mr_tick 165 t_Mr_tick_165 := dk_go 1 a_Mr_tick_164 rfl
theorem d_Mr_tick_0 : decode b_Mr_tick 0 = .ok (.iload_n 1, 1) := dk_0 a_Mr_tick_0 (dko_27 _)
theorem d_Mr_tick_1 : decode b_Mr_tick 1 = .ok (.ifCond .lt 9, 3) := dk_S2 a_Mr_tick_1 (dko_155 _) (by decide +kernel)
theorem d_Mr_tick_4 : decode b_Mr_tick 4 = .ok (.iload_n 1, 1) := dk_0 a_Mr_tick_4 (dko_27 _)
theorem d_Mr_tick_5 : decode b_Mr_tick 5 = .ok (.ldc 142, 2) := dk_U1 a_Mr_tick_5 (dko_18 _) rfl
theorem d_Mr_tick_7 : decode b_Mr_tick 7 = .ok (.if_icmp .le 5, 3) := dk_S2 a_Mr_tick_7 (dko_164 _) (by decide +kernel)
theorem d_Mr_tick_12 : decode b_Mr_tick 12 = .ok (.iconst 0, 1) := dk_0 a_Mr_tick_12 (dko_3 _)
theorem d_Mr_tick_13 : decode b_Mr_tick 13 = .ok (.istore_n 2, 1) := dk_0 a_Mr_tick_13 (dko_61 _)
theorem d_Mr_tick_14 : decode b_Mr_tick 14 = .ok (.iload_n 2, 1) := dk_0 a_Mr_tick_14 (dko_28 _)
theorem d_Mr_tick_15 : decode b_Mr_tick 15 = .ok (.aload_n 0, 1) := dk_0 a_Mr_tick_15 (dko_42 _)
theorem d_Mr_tick_16 : decode b_Mr_tick 16 = .ok (.getfield 133, 3) := dk_U2 a_Mr_tick_16 (dko_180 _) rfl
theorem d_Mr_tick_19 : decode b_Mr_tick 19 = .ok (.if_icmp .ge 145, 3) := dk_S2 a_Mr_tick_19 (dko_162 _) (by decide +kernel)
theorem d_Mr_tick_164 : decode b_Mr_tick 164 = .ok (.iconst 1, 1) := dk_0 a_Mr_tick_164 (dko_4 _)
theorem d_Mr_tick_165 : decode b_Mr_tick 165 = .ok (.ireturn, 1) := dk_0 a_Mr_tick_165 (dko_172 _)
set_option maxHeartbeats 4000000 in
set_option maxRecDepth 100000 in
theorem c_Mr_tick (l : Launch) (dC : Nat → ClassId) (dI : Nat → Nat → Nat) (cI cB cZ cJ : ClassId) (oR : Nat) (fr : List Value) (hr_rows : fx fr 20 (.int 0)) (sz : Nat) : Met l y_Mr_tick w_Mr_tick ({ frames := 0, cells := 0, slots := 0, locals := 0 }) (va_Pc [.ref oR, .int 1] (PW dC dI cI cB cZ cJ [(oR, .inr (14, fr))] sz)) (va_Qi (fun (r : Int32) (_ : Unit) => r = 1) (fun _ _ => True) (va_A [] sz)) 0 0 (va_A [] sz) := by
  refine Met.ofW (cc := b_Mr_tick) (maxL := 4) (ret := (some .boolean)) (by decide) rfl ?_
  intro p e s m args below meth c s₁ B hml hv
  obtain ⟨rfl, hsz, hP, hK, hD⟩ := hv
  have hx := B.exec
  have hb := B.bytes
  have hr := B.returns
  have hts := atoms_spec (ws := w_Mr_tick) B.pre
  have hown : s.vm.findClass R_Mr = some m.cls := findClass_of_methodNamed B.named
  have hlocks := B.notSynchronized
  subst hsz
  generalize hAe : va_A [] s.heap.size = A at ⊢
  have hA : ∀ q : Nat, s.heap.size ≤ q → A q := fun q h => by rw [← hAe]; exact Or.inr h
  have hS : va_S A s.heap s.heap [] := va_S.rf
  have hP : va_P (dC, dI) classes [(oR, .inr (14, fr))] s.heap := hP
  have hl := lv_entry ([.ref oR, .int 1]) (n := 4) (Nat.le_of_ble_eq_true rfl)
  rw [lg_entry_eq]
  generalize (lg_sl ([.ref oR, .int 1]) ++ List.replicate (4 - (lg_sl ([.ref oR, .int 1])).length) Slot.unset).toArray = ls at hl ⊢
  have hl : lv_has ls 4 [(0, .ref oR), (1, .int 1)] := hl
  refine lv_iload_n hx hb d_Mr_tick_0 rfl (lv_at hl 1 rfl) ?_
  refine lv_if_lt (tgt := 10) hx hb d_Mr_tick_1 (by decide) (fun h => absurd h (by decide)) (fun _ => ?_)
  refine lv_iload_n hx hb d_Mr_tick_4 rfl (lv_at hl 1 rfl) ?_
  refine lv_ldc (v := 100000) hx hb hown (hts _ (List.mem_cons_of_mem _ mw_2617)) d_Mr_tick_5 ?_
  refine lv_icmp_le (tgt := 12) hx hb d_Mr_tick_7 (by decide) (fun _ => ?_) (fun h => absurd (by decide) h)
  refine lv_iconst (v := 0) hx hb d_Mr_tick_12 (by decide) ?_
  refine lv_istore_n hx hb d_Mr_tick_13 rfl hl (by decide) rfl (fun ls hl => ?_)
  have hl : lv_has ls 4 [(2, .int 0), (0, .ref oR), (1, .int 1)] := hl
  refine lv_iload_n hx hb d_Mr_tick_14 rfl (lv_at hl 0 rfl) ?_
  refine lv_aload_n hx hb d_Mr_tick_15 rfl (lv_at hl 1 rfl) ?_
  refine va_get (D := (dC, dI)) (ci := 14) (v := .int 0) (C := R_Mr) (T := F_Mr) (N := 25) hx hb hts (fun w h => List.mem_cons_of_mem _ (in_Mr w h)) hown hK.1 hP 0 rfl rfl 20 (by decide) (hts _ (List.mem_cons_of_mem _ mw_1732)) (fun _ h9 => h9) hr_rows d_Mr_tick_16 ?_
  refine lv_icmp_ge (tgt := 164) hx hb d_Mr_tick_19 (by decide) (fun _ => ?_) (fun h => absurd (by decide) h)
  refine lv_iconst (v := 1) hx hb d_Mr_tick_164 (by decide) ?_
  exact W.zret (v := 1) (ty := .boolean) hx hb hr (by decide) (fun t ht hW => ⟨⟨_, (), rfl, (rfl), trivial⟩, hS.F ht⟩) hS.2.2 d_Mr_tick_165
