abbrev b_Wa_init : ByteArray := prog_12_method_1_code
def y_Wa_init : MethodName := ⟨R_Wa, "<init>", "(LBreweryHouse$Stock;)V"⟩
abbrev w_Wa_init : List Cond := .code y_Wa_init b_Wa_init 4 none :: lw_gd
abbrev b_Rd_init : ByteArray := prog_6_method_1_code
def y_Rd_init : MethodName := ⟨R_Rd, "<init>", "()V"⟩
abbrev w_Rd_init : List Cond := .code y_Rd_init b_Rd_init 5 none :: lw_gd
theorem mw_214 : (.methodLink R_Wa 3 objectInit : Cond) ∈ lw_gd := tb_mem (i := 214) (by decide +kernel) (by decide +kernel)
theorem mw_582 : (.methodLink R_Rd 3 objectInit : Cond) ∈ lw_gd := tb_mem (i := 582) (by decide +kernel) (by decide +kernel)
theorem mw_584 : (.methodLink "BreweryHouse$ProgramReader" 24 y_Sg_length : Cond) ∈ lw_gd := tb_mem (i := 584) (by decide +kernel) (by decide +kernel)
theorem mw_594 : (.methodLink "BreweryHouse$ProgramReader" 30 y_Sg_charAt : Cond) ∈ lw_gd := tb_mem (i := 594) (by decide +kernel) (by decide +kernel)
theorem nw_215 : (.fieldLinkNest "BreweryHouse$Ways" 62 "BreweryHouse" "PASSES" "[I" "BreweryHouse" : Cond) ∈ lw_nest := nw_mem (i := 215) (by decide +kernel) rfl
abbrev t_Wa_init_196 : List UInt8 := 177 :: []
abbrev t_Wa_init_193 : List UInt8 := 167 :: 255 :: 195 :: t_Wa_init_196
abbrev t_Wa_init_190 : List UInt8 := 132 :: 2 :: 1 :: t_Wa_init_193
abbrev t_Wa_init_187 : List UInt8 := 167 :: 255 :: 220 :: t_Wa_init_190
abbrev t_Wa_init_184 : List UInt8 := 132 :: 3 :: 255 :: t_Wa_init_187
abbrev t_Wa_init_183 : List UInt8 := 79 :: t_Wa_init_184
abbrev t_Wa_init_182 : List UInt8 := 29 :: t_Wa_init_183
abbrev t_Wa_init_181 : List UInt8 := 28 :: t_Wa_init_182
abbrev t_Wa_init_178 : List UInt8 := 180 :: 0 :: 55 :: t_Wa_init_181
abbrev t_Wa_init_177 : List UInt8 := 42 :: t_Wa_init_178
abbrev t_Wa_init_174 : List UInt8 := 153 :: 0 :: 10 :: t_Wa_init_177
abbrev t_Wa_init_173 : List UInt8 := 126 :: t_Wa_init_174
abbrev t_Wa_init_172 : List UInt8 := 4 :: t_Wa_init_173
abbrev t_Wa_init_171 : List UInt8 := 122 :: t_Wa_init_172
abbrev t_Wa_init_170 : List UInt8 := 126 :: t_Wa_init_171
abbrev t_Wa_init_168 : List UInt8 := 16 :: 15 :: t_Wa_init_170
abbrev t_Wa_init_167 : List UInt8 := 28 :: t_Wa_init_168
abbrev t_Wa_init_166 : List UInt8 := 46 :: t_Wa_init_167
abbrev t_Wa_init_165 : List UInt8 := 96 :: t_Wa_init_166
abbrev t_Wa_init_164 : List UInt8 := 29 :: t_Wa_init_165
abbrev t_Wa_init_163 : List UInt8 := 104 :: t_Wa_init_164
abbrev t_Wa_init_161 : List UInt8 := 16 :: 10 :: t_Wa_init_163
abbrev t_Wa_init_160 : List UInt8 := 122 :: t_Wa_init_161
abbrev t_Wa_init_159 : List UInt8 := 7 :: t_Wa_init_160
abbrev t_Wa_init_158 : List UInt8 := 28 :: t_Wa_init_159
abbrev t_Wa_init_155 : List UInt8 := 178 :: 0 :: 62 :: t_Wa_init_158
abbrev t_Wa_init_152 : List UInt8 := 155 :: 0 :: 38 :: t_Wa_init_155
abbrev t_Wa_init_151 : List UInt8 := 29 :: t_Wa_init_152
abbrev t_Wa_init_150 : List UInt8 := 62 :: t_Wa_init_151
abbrev t_Wa_init_148 : List UInt8 := 16 :: 9 :: t_Wa_init_150
abbrev t_Wa_init_147 : List UInt8 := 79 :: t_Wa_init_148
abbrev t_Wa_init_146 : List UInt8 := 2 :: t_Wa_init_147
abbrev t_Wa_init_145 : List UInt8 := 28 :: t_Wa_init_146
abbrev t_Wa_init_142 : List UInt8 := 180 :: 0 :: 55 :: t_Wa_init_145
abbrev t_Wa_init_141 : List UInt8 := 42 :: t_Wa_init_142
abbrev t_Wa_init_138 : List UInt8 := 162 :: 0 :: 58 :: t_Wa_init_141
abbrev t_Wa_init_137 : List UInt8 := 190 :: t_Wa_init_138
abbrev t_Wa_init_134 : List UInt8 := 180 :: 0 :: 55 :: t_Wa_init_137
abbrev t_Wa_init_133 : List UInt8 := 42 :: t_Wa_init_134
abbrev t_Wa_init_132 : List UInt8 := 28 :: t_Wa_init_133
abbrev t_Wa_init_131 : List UInt8 := 61 :: t_Wa_init_132
abbrev t_Wa_init_130 : List UInt8 := 3 :: t_Wa_init_131
abbrev t_Wa_init_127 : List UInt8 := 181 :: 0 :: 58 :: t_Wa_init_130
abbrev t_Wa_init_126 : List UInt8 := 43 :: t_Wa_init_127
abbrev t_Wa_init_125 : List UInt8 := 42 :: t_Wa_init_126
abbrev t_Wa_init_122 : List UInt8 := 181 :: 0 :: 55 :: t_Wa_init_125
abbrev t_Wa_init_120 : List UInt8 := 188 :: 10 :: t_Wa_init_122
abbrev t_Wa_init_117 : List UInt8 := 17 :: 0 :: 160 :: t_Wa_init_120
abbrev t_Wa_init_116 : List UInt8 := 42 :: t_Wa_init_117
abbrev t_Wa_init_113 : List UInt8 := 181 :: 0 :: 52 :: t_Wa_init_116
abbrev t_Wa_init_111 : List UInt8 := 188 :: 10 :: t_Wa_init_113
abbrev t_Wa_init_109 : List UInt8 := 16 :: 20 :: t_Wa_init_111
abbrev t_Wa_init_108 : List UInt8 := 42 :: t_Wa_init_109
abbrev t_Wa_init_105 : List UInt8 := 181 :: 0 :: 49 :: t_Wa_init_108
abbrev t_Wa_init_103 : List UInt8 := 188 :: 10 :: t_Wa_init_105
abbrev t_Wa_init_101 : List UInt8 := 16 :: 24 :: t_Wa_init_103
abbrev t_Wa_init_100 : List UInt8 := 42 :: t_Wa_init_101
abbrev t_Wa_init_97 : List UInt8 := 181 :: 0 :: 46 :: t_Wa_init_100
abbrev t_Wa_init_95 : List UInt8 := 188 :: 10 :: t_Wa_init_97
abbrev t_Wa_init_93 : List UInt8 := 16 :: 48 :: t_Wa_init_95
abbrev t_Wa_init_92 : List UInt8 := 42 :: t_Wa_init_93
abbrev t_Wa_init_89 : List UInt8 := 181 :: 0 :: 43 :: t_Wa_init_92
abbrev t_Wa_init_87 : List UInt8 := 188 :: 10 :: t_Wa_init_89
abbrev t_Wa_init_85 : List UInt8 := 16 :: 20 :: t_Wa_init_87
abbrev t_Wa_init_84 : List UInt8 := 42 :: t_Wa_init_85
abbrev t_Wa_init_81 : List UInt8 := 181 :: 0 :: 39 :: t_Wa_init_84
abbrev t_Wa_init_79 : List UInt8 := 188 :: 4 :: t_Wa_init_81
abbrev t_Wa_init_77 : List UInt8 := 16 :: 24 :: t_Wa_init_79
abbrev t_Wa_init_76 : List UInt8 := 42 :: t_Wa_init_77
abbrev t_Wa_init_73 : List UInt8 := 181 :: 0 :: 36 :: t_Wa_init_76
abbrev t_Wa_init_71 : List UInt8 := 188 :: 10 :: t_Wa_init_73
abbrev t_Wa_init_69 : List UInt8 := 16 :: 24 :: t_Wa_init_71
abbrev t_Wa_init_68 : List UInt8 := 42 :: t_Wa_init_69
abbrev t_Wa_init_65 : List UInt8 := 181 :: 0 :: 33 :: t_Wa_init_68
abbrev t_Wa_init_63 : List UInt8 := 188 :: 10 :: t_Wa_init_65
abbrev t_Wa_init_61 : List UInt8 := 16 :: 24 :: t_Wa_init_63
abbrev t_Wa_init_60 : List UInt8 := 42 :: t_Wa_init_61
abbrev t_Wa_init_57 : List UInt8 := 181 :: 0 :: 30 :: t_Wa_init_60
abbrev t_Wa_init_55 : List UInt8 := 188 :: 10 :: t_Wa_init_57
abbrev t_Wa_init_53 : List UInt8 := 16 :: 24 :: t_Wa_init_55
abbrev t_Wa_init_52 : List UInt8 := 42 :: t_Wa_init_53
abbrev t_Wa_init_49 : List UInt8 := 181 :: 0 :: 27 :: t_Wa_init_52
abbrev t_Wa_init_47 : List UInt8 := 188 :: 10 :: t_Wa_init_49
abbrev t_Wa_init_45 : List UInt8 := 16 :: 24 :: t_Wa_init_47
abbrev t_Wa_init_44 : List UInt8 := 42 :: t_Wa_init_45
abbrev t_Wa_init_41 : List UInt8 := 181 :: 0 :: 24 :: t_Wa_init_44
abbrev t_Wa_init_39 : List UInt8 := 188 :: 10 :: t_Wa_init_41
abbrev t_Wa_init_37 : List UInt8 := 16 :: 24 :: t_Wa_init_39
abbrev t_Wa_init_36 : List UInt8 := 42 :: t_Wa_init_37
abbrev t_Wa_init_33 : List UInt8 := 181 :: 0 :: 21 :: t_Wa_init_36
abbrev t_Wa_init_31 : List UInt8 := 188 :: 10 :: t_Wa_init_33
abbrev t_Wa_init_29 : List UInt8 := 16 :: 24 :: t_Wa_init_31
abbrev t_Wa_init_28 : List UInt8 := 42 :: t_Wa_init_29
abbrev t_Wa_init_25 : List UInt8 := 181 :: 0 :: 18 :: t_Wa_init_28
abbrev t_Wa_init_23 : List UInt8 := 188 :: 10 :: t_Wa_init_25
abbrev t_Wa_init_21 : List UInt8 := 16 :: 24 :: t_Wa_init_23
abbrev t_Wa_init_20 : List UInt8 := 42 :: t_Wa_init_21
abbrev t_Wa_init_17 : List UInt8 := 181 :: 0 :: 15 :: t_Wa_init_20
abbrev t_Wa_init_15 : List UInt8 := 188 :: 10 :: t_Wa_init_17
abbrev t_Wa_init_13 : List UInt8 := 16 :: 24 :: t_Wa_init_15
abbrev t_Wa_init_12 : List UInt8 := 42 :: t_Wa_init_13
abbrev t_Wa_init_9 : List UInt8 := 181 :: 0 :: 9 :: t_Wa_init_12
abbrev t_Wa_init_7 : List UInt8 := 188 :: 10 :: t_Wa_init_9
abbrev t_Wa_init_5 : List UInt8 := 16 :: 24 :: t_Wa_init_7
abbrev t_Wa_init_4 : List UInt8 := 42 :: t_Wa_init_5
abbrev t_Wa_init_1 : List UInt8 := 183 :: 0 :: 3 :: t_Wa_init_4
abbrev t_Wa_init_0 : List UInt8 := 42 :: t_Wa_init_1
theorem a_Wa_init_0 : dk_at b_Wa_init 0 t_Wa_init_0 := dk_start (by decide +kernel)
theorem a_Wa_init_1 : dk_at b_Wa_init 1 t_Wa_init_1 := dk_go 1 a_Wa_init_0 rfl
theorem a_Wa_init_4 : dk_at b_Wa_init 4 t_Wa_init_4 := dk_go 3 a_Wa_init_1 rfl
theorem a_Wa_init_5 : dk_at b_Wa_init 5 t_Wa_init_5 := dk_go 1 a_Wa_init_4 rfl
theorem a_Wa_init_7 : dk_at b_Wa_init 7 t_Wa_init_7 := dk_go 2 a_Wa_init_5 rfl
theorem a_Wa_init_9 : dk_at b_Wa_init 9 t_Wa_init_9 := dk_go 2 a_Wa_init_7 rfl
theorem a_Wa_init_12 : dk_at b_Wa_init 12 t_Wa_init_12 := dk_go 3 a_Wa_init_9 rfl
theorem a_Wa_init_13 : dk_at b_Wa_init 13 t_Wa_init_13 := dk_go 1 a_Wa_init_12 rfl
theorem a_Wa_init_15 : dk_at b_Wa_init 15 t_Wa_init_15 := dk_go 2 a_Wa_init_13 rfl
theorem a_Wa_init_17 : dk_at b_Wa_init 17 t_Wa_init_17 := dk_go 2 a_Wa_init_15 rfl
theorem a_Wa_init_20 : dk_at b_Wa_init 20 t_Wa_init_20 := dk_go 3 a_Wa_init_17 rfl
theorem a_Wa_init_21 : dk_at b_Wa_init 21 t_Wa_init_21 := dk_go 1 a_Wa_init_20 rfl
theorem a_Wa_init_23 : dk_at b_Wa_init 23 t_Wa_init_23 := dk_go 2 a_Wa_init_21 rfl
theorem a_Wa_init_25 : dk_at b_Wa_init 25 t_Wa_init_25 := dk_go 2 a_Wa_init_23 rfl
theorem a_Wa_init_28 : dk_at b_Wa_init 28 t_Wa_init_28 := dk_go 3 a_Wa_init_25 rfl
theorem a_Wa_init_29 : dk_at b_Wa_init 29 t_Wa_init_29 := dk_go 1 a_Wa_init_28 rfl
theorem a_Wa_init_31 : dk_at b_Wa_init 31 t_Wa_init_31 := dk_go 2 a_Wa_init_29 rfl
theorem a_Wa_init_33 : dk_at b_Wa_init 33 t_Wa_init_33 := dk_go 2 a_Wa_init_31 rfl
theorem a_Wa_init_36 : dk_at b_Wa_init 36 t_Wa_init_36 := dk_go 3 a_Wa_init_33 rfl
theorem a_Wa_init_37 : dk_at b_Wa_init 37 t_Wa_init_37 := dk_go 1 a_Wa_init_36 rfl
theorem a_Wa_init_39 : dk_at b_Wa_init 39 t_Wa_init_39 := dk_go 2 a_Wa_init_37 rfl
theorem a_Wa_init_41 : dk_at b_Wa_init 41 t_Wa_init_41 := dk_go 2 a_Wa_init_39 rfl
theorem a_Wa_init_44 : dk_at b_Wa_init 44 t_Wa_init_44 := dk_go 3 a_Wa_init_41 rfl
theorem a_Wa_init_45 : dk_at b_Wa_init 45 t_Wa_init_45 := dk_go 1 a_Wa_init_44 rfl
theorem a_Wa_init_47 : dk_at b_Wa_init 47 t_Wa_init_47 := dk_go 2 a_Wa_init_45 rfl
theorem a_Wa_init_49 : dk_at b_Wa_init 49 t_Wa_init_49 := dk_go 2 a_Wa_init_47 rfl
theorem a_Wa_init_52 : dk_at b_Wa_init 52 t_Wa_init_52 := dk_go 3 a_Wa_init_49 rfl
theorem a_Wa_init_53 : dk_at b_Wa_init 53 t_Wa_init_53 := dk_go 1 a_Wa_init_52 rfl
theorem a_Wa_init_55 : dk_at b_Wa_init 55 t_Wa_init_55 := dk_go 2 a_Wa_init_53 rfl
theorem a_Wa_init_57 : dk_at b_Wa_init 57 t_Wa_init_57 := dk_go 2 a_Wa_init_55 rfl
theorem a_Wa_init_60 : dk_at b_Wa_init 60 t_Wa_init_60 := dk_go 3 a_Wa_init_57 rfl
theorem a_Wa_init_61 : dk_at b_Wa_init 61 t_Wa_init_61 := dk_go 1 a_Wa_init_60 rfl
theorem a_Wa_init_63 : dk_at b_Wa_init 63 t_Wa_init_63 := dk_go 2 a_Wa_init_61 rfl
theorem a_Wa_init_65 : dk_at b_Wa_init 65 t_Wa_init_65 := dk_go 2 a_Wa_init_63 rfl
theorem a_Wa_init_68 : dk_at b_Wa_init 68 t_Wa_init_68 := dk_go 3 a_Wa_init_65 rfl
theorem a_Wa_init_69 : dk_at b_Wa_init 69 t_Wa_init_69 := dk_go 1 a_Wa_init_68 rfl
theorem a_Wa_init_71 : dk_at b_Wa_init 71 t_Wa_init_71 := dk_go 2 a_Wa_init_69 rfl
theorem a_Wa_init_73 : dk_at b_Wa_init 73 t_Wa_init_73 := dk_go 2 a_Wa_init_71 rfl
theorem a_Wa_init_76 : dk_at b_Wa_init 76 t_Wa_init_76 := dk_go 3 a_Wa_init_73 rfl
theorem a_Wa_init_77 : dk_at b_Wa_init 77 t_Wa_init_77 := dk_go 1 a_Wa_init_76 rfl
theorem a_Wa_init_79 : dk_at b_Wa_init 79 t_Wa_init_79 := dk_go 2 a_Wa_init_77 rfl
theorem a_Wa_init_81 : dk_at b_Wa_init 81 t_Wa_init_81 := dk_go 2 a_Wa_init_79 rfl
theorem a_Wa_init_84 : dk_at b_Wa_init 84 t_Wa_init_84 := dk_go 3 a_Wa_init_81 rfl
theorem a_Wa_init_85 : dk_at b_Wa_init 85 t_Wa_init_85 := dk_go 1 a_Wa_init_84 rfl
theorem a_Wa_init_87 : dk_at b_Wa_init 87 t_Wa_init_87 := dk_go 2 a_Wa_init_85 rfl
theorem a_Wa_init_89 : dk_at b_Wa_init 89 t_Wa_init_89 := dk_go 2 a_Wa_init_87 rfl
theorem a_Wa_init_92 : dk_at b_Wa_init 92 t_Wa_init_92 := dk_go 3 a_Wa_init_89 rfl
theorem a_Wa_init_93 : dk_at b_Wa_init 93 t_Wa_init_93 := dk_go 1 a_Wa_init_92 rfl
theorem a_Wa_init_95 : dk_at b_Wa_init 95 t_Wa_init_95 := dk_go 2 a_Wa_init_93 rfl
theorem a_Wa_init_97 : dk_at b_Wa_init 97 t_Wa_init_97 := dk_go 2 a_Wa_init_95 rfl
theorem a_Wa_init_100 : dk_at b_Wa_init 100 t_Wa_init_100 := dk_go 3 a_Wa_init_97 rfl
theorem a_Wa_init_101 : dk_at b_Wa_init 101 t_Wa_init_101 := dk_go 1 a_Wa_init_100 rfl
theorem a_Wa_init_103 : dk_at b_Wa_init 103 t_Wa_init_103 := dk_go 2 a_Wa_init_101 rfl
theorem a_Wa_init_105 : dk_at b_Wa_init 105 t_Wa_init_105 := dk_go 2 a_Wa_init_103 rfl
theorem a_Wa_init_108 : dk_at b_Wa_init 108 t_Wa_init_108 := dk_go 3 a_Wa_init_105 rfl
theorem a_Wa_init_109 : dk_at b_Wa_init 109 t_Wa_init_109 := dk_go 1 a_Wa_init_108 rfl
theorem a_Wa_init_111 : dk_at b_Wa_init 111 t_Wa_init_111 := dk_go 2 a_Wa_init_109 rfl
theorem a_Wa_init_113 : dk_at b_Wa_init 113 t_Wa_init_113 := dk_go 2 a_Wa_init_111 rfl
theorem a_Wa_init_116 : dk_at b_Wa_init 116 t_Wa_init_116 := dk_go 3 a_Wa_init_113 rfl
theorem a_Wa_init_117 : dk_at b_Wa_init 117 t_Wa_init_117 := dk_go 1 a_Wa_init_116 rfl
theorem a_Wa_init_120 : dk_at b_Wa_init 120 t_Wa_init_120 := dk_go 3 a_Wa_init_117 rfl
theorem a_Wa_init_122 : dk_at b_Wa_init 122 t_Wa_init_122 := dk_go 2 a_Wa_init_120 rfl
theorem a_Wa_init_125 : dk_at b_Wa_init 125 t_Wa_init_125 := dk_go 3 a_Wa_init_122 rfl
theorem a_Wa_init_126 : dk_at b_Wa_init 126 t_Wa_init_126 := dk_go 1 a_Wa_init_125 rfl
theorem a_Wa_init_127 : dk_at b_Wa_init 127 t_Wa_init_127 := dk_go 1 a_Wa_init_126 rfl
theorem a_Wa_init_130 : dk_at b_Wa_init 130 t_Wa_init_130 := dk_go 3 a_Wa_init_127 rfl
theorem a_Wa_init_131 : dk_at b_Wa_init 131 t_Wa_init_131 := dk_go 1 a_Wa_init_130 rfl
theorem a_Wa_init_132 : dk_at b_Wa_init 132 t_Wa_init_132 := dk_go 1 a_Wa_init_131 rfl
theorem a_Wa_init_133 : dk_at b_Wa_init 133 t_Wa_init_133 := dk_go 1 a_Wa_init_132 rfl
theorem a_Wa_init_134 : dk_at b_Wa_init 134 t_Wa_init_134 := dk_go 1 a_Wa_init_133 rfl
theorem a_Wa_init_137 : dk_at b_Wa_init 137 t_Wa_init_137 := dk_go 3 a_Wa_init_134 rfl
theorem a_Wa_init_138 : dk_at b_Wa_init 138 t_Wa_init_138 := dk_go 1 a_Wa_init_137 rfl
theorem a_Wa_init_141 : dk_at b_Wa_init 141 t_Wa_init_141 := dk_go 3 a_Wa_init_138 rfl
theorem a_Wa_init_142 : dk_at b_Wa_init 142 t_Wa_init_142 := dk_go 1 a_Wa_init_141 rfl
theorem a_Wa_init_145 : dk_at b_Wa_init 145 t_Wa_init_145 := dk_go 3 a_Wa_init_142 rfl
theorem a_Wa_init_146 : dk_at b_Wa_init 146 t_Wa_init_146 := dk_go 1 a_Wa_init_145 rfl
theorem a_Wa_init_147 : dk_at b_Wa_init 147 t_Wa_init_147 := dk_go 1 a_Wa_init_146 rfl
theorem a_Wa_init_148 : dk_at b_Wa_init 148 t_Wa_init_148 := dk_go 1 a_Wa_init_147 rfl
theorem a_Wa_init_150 : dk_at b_Wa_init 150 t_Wa_init_150 := dk_go 2 a_Wa_init_148 rfl
theorem a_Wa_init_151 : dk_at b_Wa_init 151 t_Wa_init_151 := dk_go 1 a_Wa_init_150 rfl
theorem a_Wa_init_152 : dk_at b_Wa_init 152 t_Wa_init_152 := dk_go 1 a_Wa_init_151 rfl
theorem a_Wa_init_155 : dk_at b_Wa_init 155 t_Wa_init_155 := dk_go 3 a_Wa_init_152 rfl
theorem a_Wa_init_158 : dk_at b_Wa_init 158 t_Wa_init_158 := dk_go 3 a_Wa_init_155 rfl
theorem a_Wa_init_159 : dk_at b_Wa_init 159 t_Wa_init_159 := dk_go 1 a_Wa_init_158 rfl
theorem a_Wa_init_160 : dk_at b_Wa_init 160 t_Wa_init_160 := dk_go 1 a_Wa_init_159 rfl
theorem a_Wa_init_161 : dk_at b_Wa_init 161 t_Wa_init_161 := dk_go 1 a_Wa_init_160 rfl
theorem a_Wa_init_163 : dk_at b_Wa_init 163 t_Wa_init_163 := dk_go 2 a_Wa_init_161 rfl
theorem a_Wa_init_164 : dk_at b_Wa_init 164 t_Wa_init_164 := dk_go 1 a_Wa_init_163 rfl
theorem a_Wa_init_165 : dk_at b_Wa_init 165 t_Wa_init_165 := dk_go 1 a_Wa_init_164 rfl
theorem a_Wa_init_166 : dk_at b_Wa_init 166 t_Wa_init_166 := dk_go 1 a_Wa_init_165 rfl
theorem a_Wa_init_167 : dk_at b_Wa_init 167 t_Wa_init_167 := dk_go 1 a_Wa_init_166 rfl
theorem a_Wa_init_168 : dk_at b_Wa_init 168 t_Wa_init_168 := dk_go 1 a_Wa_init_167 rfl
theorem a_Wa_init_170 : dk_at b_Wa_init 170 t_Wa_init_170 := dk_go 2 a_Wa_init_168 rfl
theorem a_Wa_init_171 : dk_at b_Wa_init 171 t_Wa_init_171 := dk_go 1 a_Wa_init_170 rfl
theorem a_Wa_init_172 : dk_at b_Wa_init 172 t_Wa_init_172 := dk_go 1 a_Wa_init_171 rfl
theorem a_Wa_init_173 : dk_at b_Wa_init 173 t_Wa_init_173 := dk_go 1 a_Wa_init_172 rfl
theorem a_Wa_init_174 : dk_at b_Wa_init 174 t_Wa_init_174 := dk_go 1 a_Wa_init_173 rfl
theorem a_Wa_init_177 : dk_at b_Wa_init 177 t_Wa_init_177 := dk_go 3 a_Wa_init_174 rfl
theorem a_Wa_init_178 : dk_at b_Wa_init 178 t_Wa_init_178 := dk_go 1 a_Wa_init_177 rfl
theorem a_Wa_init_181 : dk_at b_Wa_init 181 t_Wa_init_181 := dk_go 3 a_Wa_init_178 rfl
theorem a_Wa_init_182 : dk_at b_Wa_init 182 t_Wa_init_182 := dk_go 1 a_Wa_init_181 rfl
theorem a_Wa_init_183 : dk_at b_Wa_init 183 t_Wa_init_183 := dk_go 1 a_Wa_init_182 rfl
theorem a_Wa_init_184 : dk_at b_Wa_init 184 t_Wa_init_184 := dk_go 1 a_Wa_init_183 rfl
theorem a_Wa_init_187 : dk_at b_Wa_init 187 t_Wa_init_187 := dk_go 3 a_Wa_init_184 rfl
theorem a_Wa_init_190 : dk_at b_Wa_init 190 t_Wa_init_190 := dk_go 3 a_Wa_init_187 rfl
theorem a_Wa_init_193 : dk_at b_Wa_init 193 t_Wa_init_193 := dk_go 3 a_Wa_init_190 rfl
theorem a_Wa_init_196 : dk_at b_Wa_init 196 t_Wa_init_196 := dk_go 3 a_Wa_init_193 rfl
theorem d_Wa_init_0 : decode b_Wa_init 0 = .ok (.aload_n 0, 1) := dk_0 a_Wa_init_0 (dko_42 _)
theorem d_Wa_init_1 : decode b_Wa_init 1 = .ok (.invokespecial 3, 3) := dk_U2 a_Wa_init_1 (dko_183 _) rfl
theorem d_Wa_init_4 : decode b_Wa_init 4 = .ok (.aload_n 0, 1) := dk_0 a_Wa_init_4 (dko_42 _)
theorem d_Wa_init_5 : decode b_Wa_init 5 = .ok (.bipush 24, 2) := dk_S1 a_Wa_init_5 (dko_16 _) (by decide +kernel)
theorem d_Wa_init_7 : decode b_Wa_init 7 = .ok (.newarray .int, 2) := dk_N a_Wa_init_7 (dko_188 _) rfl
theorem d_Wa_init_9 : decode b_Wa_init 9 = .ok (.putfield 9, 3) := dk_U2 a_Wa_init_9 (dko_181 _) rfl
theorem d_Wa_init_12 : decode b_Wa_init 12 = .ok (.aload_n 0, 1) := dk_0 a_Wa_init_12 (dko_42 _)
theorem d_Wa_init_13 : decode b_Wa_init 13 = .ok (.bipush 24, 2) := dk_S1 a_Wa_init_13 (dko_16 _) (by decide +kernel)
theorem d_Wa_init_15 : decode b_Wa_init 15 = .ok (.newarray .int, 2) := dk_N a_Wa_init_15 (dko_188 _) rfl
theorem d_Wa_init_17 : decode b_Wa_init 17 = .ok (.putfield 15, 3) := dk_U2 a_Wa_init_17 (dko_181 _) rfl
theorem d_Wa_init_20 : decode b_Wa_init 20 = .ok (.aload_n 0, 1) := dk_0 a_Wa_init_20 (dko_42 _)
theorem d_Wa_init_21 : decode b_Wa_init 21 = .ok (.bipush 24, 2) := dk_S1 a_Wa_init_21 (dko_16 _) (by decide +kernel)
theorem d_Wa_init_23 : decode b_Wa_init 23 = .ok (.newarray .int, 2) := dk_N a_Wa_init_23 (dko_188 _) rfl
theorem d_Wa_init_25 : decode b_Wa_init 25 = .ok (.putfield 18, 3) := dk_U2 a_Wa_init_25 (dko_181 _) rfl
theorem d_Wa_init_28 : decode b_Wa_init 28 = .ok (.aload_n 0, 1) := dk_0 a_Wa_init_28 (dko_42 _)
theorem d_Wa_init_29 : decode b_Wa_init 29 = .ok (.bipush 24, 2) := dk_S1 a_Wa_init_29 (dko_16 _) (by decide +kernel)
theorem d_Wa_init_31 : decode b_Wa_init 31 = .ok (.newarray .int, 2) := dk_N a_Wa_init_31 (dko_188 _) rfl
theorem d_Wa_init_33 : decode b_Wa_init 33 = .ok (.putfield 21, 3) := dk_U2 a_Wa_init_33 (dko_181 _) rfl
theorem d_Wa_init_36 : decode b_Wa_init 36 = .ok (.aload_n 0, 1) := dk_0 a_Wa_init_36 (dko_42 _)
theorem d_Wa_init_37 : decode b_Wa_init 37 = .ok (.bipush 24, 2) := dk_S1 a_Wa_init_37 (dko_16 _) (by decide +kernel)
theorem d_Wa_init_39 : decode b_Wa_init 39 = .ok (.newarray .int, 2) := dk_N a_Wa_init_39 (dko_188 _) rfl
theorem d_Wa_init_41 : decode b_Wa_init 41 = .ok (.putfield 24, 3) := dk_U2 a_Wa_init_41 (dko_181 _) rfl
theorem d_Wa_init_44 : decode b_Wa_init 44 = .ok (.aload_n 0, 1) := dk_0 a_Wa_init_44 (dko_42 _)
theorem d_Wa_init_45 : decode b_Wa_init 45 = .ok (.bipush 24, 2) := dk_S1 a_Wa_init_45 (dko_16 _) (by decide +kernel)
theorem d_Wa_init_47 : decode b_Wa_init 47 = .ok (.newarray .int, 2) := dk_N a_Wa_init_47 (dko_188 _) rfl
theorem d_Wa_init_49 : decode b_Wa_init 49 = .ok (.putfield 27, 3) := dk_U2 a_Wa_init_49 (dko_181 _) rfl
theorem d_Wa_init_52 : decode b_Wa_init 52 = .ok (.aload_n 0, 1) := dk_0 a_Wa_init_52 (dko_42 _)
theorem d_Wa_init_53 : decode b_Wa_init 53 = .ok (.bipush 24, 2) := dk_S1 a_Wa_init_53 (dko_16 _) (by decide +kernel)
theorem d_Wa_init_55 : decode b_Wa_init 55 = .ok (.newarray .int, 2) := dk_N a_Wa_init_55 (dko_188 _) rfl
theorem d_Wa_init_57 : decode b_Wa_init 57 = .ok (.putfield 30, 3) := dk_U2 a_Wa_init_57 (dko_181 _) rfl
theorem d_Wa_init_60 : decode b_Wa_init 60 = .ok (.aload_n 0, 1) := dk_0 a_Wa_init_60 (dko_42 _)
theorem d_Wa_init_61 : decode b_Wa_init 61 = .ok (.bipush 24, 2) := dk_S1 a_Wa_init_61 (dko_16 _) (by decide +kernel)
theorem d_Wa_init_63 : decode b_Wa_init 63 = .ok (.newarray .int, 2) := dk_N a_Wa_init_63 (dko_188 _) rfl
theorem d_Wa_init_65 : decode b_Wa_init 65 = .ok (.putfield 33, 3) := dk_U2 a_Wa_init_65 (dko_181 _) rfl
theorem d_Wa_init_68 : decode b_Wa_init 68 = .ok (.aload_n 0, 1) := dk_0 a_Wa_init_68 (dko_42 _)
theorem d_Wa_init_69 : decode b_Wa_init 69 = .ok (.bipush 24, 2) := dk_S1 a_Wa_init_69 (dko_16 _) (by decide +kernel)
theorem d_Wa_init_71 : decode b_Wa_init 71 = .ok (.newarray .int, 2) := dk_N a_Wa_init_71 (dko_188 _) rfl
theorem d_Wa_init_73 : decode b_Wa_init 73 = .ok (.putfield 36, 3) := dk_U2 a_Wa_init_73 (dko_181 _) rfl
theorem d_Wa_init_76 : decode b_Wa_init 76 = .ok (.aload_n 0, 1) := dk_0 a_Wa_init_76 (dko_42 _)
theorem d_Wa_init_77 : decode b_Wa_init 77 = .ok (.bipush 24, 2) := dk_S1 a_Wa_init_77 (dko_16 _) (by decide +kernel)
theorem d_Wa_init_79 : decode b_Wa_init 79 = .ok (.newarray .boolean, 2) := dk_N a_Wa_init_79 (dko_188 _) rfl
theorem d_Wa_init_81 : decode b_Wa_init 81 = .ok (.putfield 39, 3) := dk_U2 a_Wa_init_81 (dko_181 _) rfl
theorem d_Wa_init_84 : decode b_Wa_init 84 = .ok (.aload_n 0, 1) := dk_0 a_Wa_init_84 (dko_42 _)
theorem d_Wa_init_85 : decode b_Wa_init 85 = .ok (.bipush 20, 2) := dk_S1 a_Wa_init_85 (dko_16 _) (by decide +kernel)
theorem d_Wa_init_87 : decode b_Wa_init 87 = .ok (.newarray .int, 2) := dk_N a_Wa_init_87 (dko_188 _) rfl
theorem d_Wa_init_89 : decode b_Wa_init 89 = .ok (.putfield 43, 3) := dk_U2 a_Wa_init_89 (dko_181 _) rfl
theorem d_Wa_init_92 : decode b_Wa_init 92 = .ok (.aload_n 0, 1) := dk_0 a_Wa_init_92 (dko_42 _)
theorem d_Wa_init_93 : decode b_Wa_init 93 = .ok (.bipush 48, 2) := dk_S1 a_Wa_init_93 (dko_16 _) (by decide +kernel)
theorem d_Wa_init_95 : decode b_Wa_init 95 = .ok (.newarray .int, 2) := dk_N a_Wa_init_95 (dko_188 _) rfl
theorem d_Wa_init_97 : decode b_Wa_init 97 = .ok (.putfield 46, 3) := dk_U2 a_Wa_init_97 (dko_181 _) rfl
theorem d_Wa_init_100 : decode b_Wa_init 100 = .ok (.aload_n 0, 1) := dk_0 a_Wa_init_100 (dko_42 _)
theorem d_Wa_init_101 : decode b_Wa_init 101 = .ok (.bipush 24, 2) := dk_S1 a_Wa_init_101 (dko_16 _) (by decide +kernel)
theorem d_Wa_init_103 : decode b_Wa_init 103 = .ok (.newarray .int, 2) := dk_N a_Wa_init_103 (dko_188 _) rfl
theorem d_Wa_init_105 : decode b_Wa_init 105 = .ok (.putfield 49, 3) := dk_U2 a_Wa_init_105 (dko_181 _) rfl
theorem d_Wa_init_108 : decode b_Wa_init 108 = .ok (.aload_n 0, 1) := dk_0 a_Wa_init_108 (dko_42 _)
theorem d_Wa_init_109 : decode b_Wa_init 109 = .ok (.bipush 20, 2) := dk_S1 a_Wa_init_109 (dko_16 _) (by decide +kernel)
theorem d_Wa_init_111 : decode b_Wa_init 111 = .ok (.newarray .int, 2) := dk_N a_Wa_init_111 (dko_188 _) rfl
theorem d_Wa_init_113 : decode b_Wa_init 113 = .ok (.putfield 52, 3) := dk_U2 a_Wa_init_113 (dko_181 _) rfl
theorem d_Wa_init_116 : decode b_Wa_init 116 = .ok (.aload_n 0, 1) := dk_0 a_Wa_init_116 (dko_42 _)
theorem d_Wa_init_117 : decode b_Wa_init 117 = .ok (.sipush 160, 3) := dk_S2 a_Wa_init_117 (dko_17 _) (by decide +kernel)
theorem d_Wa_init_120 : decode b_Wa_init 120 = .ok (.newarray .int, 2) := dk_N a_Wa_init_120 (dko_188 _) rfl
theorem d_Wa_init_122 : decode b_Wa_init 122 = .ok (.putfield 55, 3) := dk_U2 a_Wa_init_122 (dko_181 _) rfl
theorem d_Wa_init_125 : decode b_Wa_init 125 = .ok (.aload_n 0, 1) := dk_0 a_Wa_init_125 (dko_42 _)
theorem d_Wa_init_126 : decode b_Wa_init 126 = .ok (.aload_n 1, 1) := dk_0 a_Wa_init_126 (dko_43 _)
theorem d_Wa_init_127 : decode b_Wa_init 127 = .ok (.putfield 58, 3) := dk_U2 a_Wa_init_127 (dko_181 _) rfl
theorem d_Wa_init_130 : decode b_Wa_init 130 = .ok (.iconst 0, 1) := dk_0 a_Wa_init_130 (dko_3 _)
theorem d_Wa_init_131 : decode b_Wa_init 131 = .ok (.istore_n 2, 1) := dk_0 a_Wa_init_131 (dko_61 _)
theorem d_Wa_init_132 : decode b_Wa_init 132 = .ok (.iload_n 2, 1) := dk_0 a_Wa_init_132 (dko_28 _)
theorem d_Wa_init_133 : decode b_Wa_init 133 = .ok (.aload_n 0, 1) := dk_0 a_Wa_init_133 (dko_42 _)
theorem d_Wa_init_134 : decode b_Wa_init 134 = .ok (.getfield 55, 3) := dk_U2 a_Wa_init_134 (dko_180 _) rfl
theorem d_Wa_init_137 : decode b_Wa_init 137 = .ok (.arraylength, 1) := dk_0 a_Wa_init_137 (dko_190 _)
theorem d_Wa_init_138 : decode b_Wa_init 138 = .ok (.if_icmp .ge 58, 3) := dk_S2 a_Wa_init_138 (dko_162 _) (by decide +kernel)
theorem d_Wa_init_141 : decode b_Wa_init 141 = .ok (.aload_n 0, 1) := dk_0 a_Wa_init_141 (dko_42 _)
theorem d_Wa_init_142 : decode b_Wa_init 142 = .ok (.getfield 55, 3) := dk_U2 a_Wa_init_142 (dko_180 _) rfl
theorem d_Wa_init_145 : decode b_Wa_init 145 = .ok (.iload_n 2, 1) := dk_0 a_Wa_init_145 (dko_28 _)
theorem d_Wa_init_146 : decode b_Wa_init 146 = .ok (.iconst (-1), 1) := dk_0 a_Wa_init_146 (dko_2 _)
theorem d_Wa_init_147 : decode b_Wa_init 147 = .ok (.iastore, 1) := dk_0 a_Wa_init_147 (dko_79 _)
theorem d_Wa_init_148 : decode b_Wa_init 148 = .ok (.bipush 9, 2) := dk_S1 a_Wa_init_148 (dko_16 _) (by decide +kernel)
theorem d_Wa_init_150 : decode b_Wa_init 150 = .ok (.istore_n 3, 1) := dk_0 a_Wa_init_150 (dko_62 _)
theorem d_Wa_init_151 : decode b_Wa_init 151 = .ok (.iload_n 3, 1) := dk_0 a_Wa_init_151 (dko_29 _)
theorem d_Wa_init_152 : decode b_Wa_init 152 = .ok (.ifCond .lt 38, 3) := dk_S2 a_Wa_init_152 (dko_155 _) (by decide +kernel)
theorem d_Wa_init_155 : decode b_Wa_init 155 = .ok (.getstatic 62, 3) := dk_U2 a_Wa_init_155 (dko_178 _) rfl
theorem d_Wa_init_158 : decode b_Wa_init 158 = .ok (.iload_n 2, 1) := dk_0 a_Wa_init_158 (dko_28 _)
theorem d_Wa_init_159 : decode b_Wa_init 159 = .ok (.iconst 4, 1) := dk_0 a_Wa_init_159 (dko_7 _)
theorem d_Wa_init_160 : decode b_Wa_init 160 = .ok (.ishr, 1) := dk_0 a_Wa_init_160 (dko_122 _)
theorem d_Wa_init_161 : decode b_Wa_init 161 = .ok (.bipush 10, 2) := dk_S1 a_Wa_init_161 (dko_16 _) (by decide +kernel)
theorem d_Wa_init_163 : decode b_Wa_init 163 = .ok (.imul, 1) := dk_0 a_Wa_init_163 (dko_104 _)
theorem d_Wa_init_164 : decode b_Wa_init 164 = .ok (.iload_n 3, 1) := dk_0 a_Wa_init_164 (dko_29 _)
theorem d_Wa_init_165 : decode b_Wa_init 165 = .ok (.iadd, 1) := dk_0 a_Wa_init_165 (dko_96 _)
theorem d_Wa_init_166 : decode b_Wa_init 166 = .ok (.iaload, 1) := dk_0 a_Wa_init_166 (dko_46 _)
theorem d_Wa_init_167 : decode b_Wa_init 167 = .ok (.iload_n 2, 1) := dk_0 a_Wa_init_167 (dko_28 _)
theorem d_Wa_init_168 : decode b_Wa_init 168 = .ok (.bipush 15, 2) := dk_S1 a_Wa_init_168 (dko_16 _) (by decide +kernel)
theorem d_Wa_init_170 : decode b_Wa_init 170 = .ok (.iand, 1) := dk_0 a_Wa_init_170 (dko_126 _)
theorem d_Wa_init_171 : decode b_Wa_init 171 = .ok (.ishr, 1) := dk_0 a_Wa_init_171 (dko_122 _)
theorem d_Wa_init_172 : decode b_Wa_init 172 = .ok (.iconst 1, 1) := dk_0 a_Wa_init_172 (dko_4 _)
theorem d_Wa_init_173 : decode b_Wa_init 173 = .ok (.iand, 1) := dk_0 a_Wa_init_173 (dko_126 _)
theorem d_Wa_init_174 : decode b_Wa_init 174 = .ok (.ifCond .eq 10, 3) := dk_S2 a_Wa_init_174 (dko_153 _) (by decide +kernel)
theorem d_Wa_init_177 : decode b_Wa_init 177 = .ok (.aload_n 0, 1) := dk_0 a_Wa_init_177 (dko_42 _)
theorem d_Wa_init_178 : decode b_Wa_init 178 = .ok (.getfield 55, 3) := dk_U2 a_Wa_init_178 (dko_180 _) rfl
theorem d_Wa_init_181 : decode b_Wa_init 181 = .ok (.iload_n 2, 1) := dk_0 a_Wa_init_181 (dko_28 _)
theorem d_Wa_init_182 : decode b_Wa_init 182 = .ok (.iload_n 3, 1) := dk_0 a_Wa_init_182 (dko_29 _)
theorem d_Wa_init_183 : decode b_Wa_init 183 = .ok (.iastore, 1) := dk_0 a_Wa_init_183 (dko_79 _)
theorem d_Wa_init_184 : decode b_Wa_init 184 = .ok (.iinc 3 (-1), 3) := dk_US a_Wa_init_184 (dko_132 _) (by decide +kernel)
theorem d_Wa_init_187 : decode b_Wa_init 187 = .ok (.goto (-36), 3) := dk_S2 a_Wa_init_187 (dko_167 _) (by decide +kernel)
theorem d_Wa_init_190 : decode b_Wa_init 190 = .ok (.iinc 2 1, 3) := dk_US a_Wa_init_190 (dko_132 _) (by decide +kernel)
theorem d_Wa_init_193 : decode b_Wa_init 193 = .ok (.goto (-61), 3) := dk_S2 a_Wa_init_193 (dko_167 _) (by decide +kernel)
theorem d_Wa_init_196 : decode b_Wa_init 196 = .ok (.return_, 1) := dk_0 a_Wa_init_196 (dko_177 _)
/-- the least position in which a kind passes, as the loop of Ways finds it -/
def ndJ (i : Nat) : Nat → Int32
  | 0 => -1
  | j + 1 => if ((psT ((((sh4 i) * 10) + (pv j)))) >>> (((nI i) &&& 15) &&& 31)) &&& 1 = 0 then ndJ i j else pv j
def ndO (i k : Nat) : Int32 := if k < i then ndJ k 10 else 0
theorem ndJ_z {i j : Nat} (h : ((psT ((((sh4 i) * 10) + (pv j)))) >>> (((nI i) &&& 15) &&& 31)) &&& 1 = 0) : ndJ i (j + 1) = ndJ i j := by
  show (if _ then _ else _) = _
  rw [if_pos h]
theorem ndJ_s {i j : Nat} (h : ¬ ((psT ((((sh4 i) * 10) + (pv j)))) >>> (((nI i) &&& 15) &&& 31)) &&& 1 = 0) : ndJ i (j + 1) = pv j := by
  show (if _ then _ else _) = _
  rw [if_neg h]
theorem ndO_0 : (fun _ => 0) = ndO 0 := by
  funext k
  show 0 = (if k < 0 then _ else _)
  rw [if_neg (by omega)]
theorem ndO_s (i : Nat) : upd (ndO i) i (ndJ i 10) = ndO (i + 1) := by
  funext k
  unfold upd ndO
  by_cases h : k = i
  · rw [if_pos h, if_pos (by omega), h]
  · rw [if_neg h]
    by_cases g : k < i
    · rw [if_pos g, if_pos (by omega)]
    · rw [if_neg g, if_neg (by omega)]
theorem upd_upd (f : Nat → Int32) (i : Nat) (a b : Int32) : upd (upd f i a) i b = upd f i b := by
  funext k
  unfold upd
  by_cases h : k = i
  · rw [if_pos h, if_pos h]
  · rw [if_neg h, if_neg h, if_neg h]
theorem nIc : ∀ i, i < 160 → (nI i).toNatClampNeg = i := by decide +kernel
set_option maxHeartbeats 4000000 in
set_option maxRecDepth 100000 in
theorem c_Wa_init (l : Launch) (dC : Nat → ClassId) (dI : Nat → Nat → Nat) (cI cB cZ cJ : ClassId) (tPA : Nat) (adK adV : Nat → Nat) (h0 : Nat) (r1 : Nat) (sz : Nat) : Met l y_Wa_init w_Wa_init ({ frames := 1, cells := 15, slots := 512, locals := 20 }) (va_Pc [.ref h0, .ref r1] (PWG dC dI cI cB cZ cJ tPA adK adV [(h0, .inr (5, [.null, .int 0, .null, .null, .null, .null, .null, .null, .null, .null, .null, .null, .null, .null, .null, .int 0, .null, .null]))] [(h0, .inr (5, [.null, .int 0, .null, .null, .null, .null, .null, .null, .null, .null, .null, .null, .null, .null, .null, .int 0, .null, .null]))] sz)) (va_Qv (fun _ : Unit => True) (fun (_ : Unit) (t : State) => ∃ q7 q15 q23 q31 q39 q47 q55 q63 q71 q79 q87 q95 q103 q111 q120 : Nat, ∃ g_q120 : Nat → Int32, g_q120 = ndO 160 ∧ va_P (dC, dI) classes [(h0, .inr (5, [.ref r1, .int 0, .ref q7, .ref q15, .ref q23, .ref q31, .ref q39, .ref q47, .ref q55, .ref q63, .ref q71, .ref q79, .ref q87, .ref q95, .ref q103, .int 0, .ref q111, .ref q120])), (q7, .inl (cI, 24, .inl (fun _ => 0))), (q15, .inl (cI, 24, .inl (fun _ => 0))), (q23, .inl (cI, 24, .inl (fun _ => 0))), (q31, .inl (cI, 24, .inl (fun _ => 0))), (q39, .inl (cI, 24, .inl (fun _ => 0))), (q47, .inl (cI, 24, .inl (fun _ => 0))), (q55, .inl (cI, 24, .inl (fun _ => 0))), (q63, .inl (cI, 24, .inl (fun _ => 0))), (q71, .inl (cI, 24, .inl (fun _ => 0))), (q79, .inl (cZ, 24, .inl (fun _ => 0))), (q87, .inl (cI, 20, .inl (fun _ => 0))), (q95, .inl (cI, 48, .inl (fun _ => 0))), (q103, .inl (cI, 24, .inl (fun _ => 0))), (q111, .inl (cI, 20, .inl (fun _ => 0))), (q120, .inl (cI, 160, .inl g_q120))] t.heap ∧ va_D (va_A [(h0, .inr (5, [.null, .int 0, .null, .null, .null, .null, .null, .null, .null, .null, .null, .null, .null, .null, .null, .int 0, .null, .null]))] sz) [(h0, .inr (5, [.ref r1, .int 0, .ref q7, .ref q15, .ref q23, .ref q31, .ref q39, .ref q47, .ref q55, .ref q63, .ref q71, .ref q79, .ref q87, .ref q95, .ref q103, .int 0, .ref q111, .ref q120])), (q7, .inl (cI, 24, .inl (fun _ => 0))), (q15, .inl (cI, 24, .inl (fun _ => 0))), (q23, .inl (cI, 24, .inl (fun _ => 0))), (q31, .inl (cI, 24, .inl (fun _ => 0))), (q39, .inl (cI, 24, .inl (fun _ => 0))), (q47, .inl (cI, 24, .inl (fun _ => 0))), (q55, .inl (cI, 24, .inl (fun _ => 0))), (q63, .inl (cI, 24, .inl (fun _ => 0))), (q71, .inl (cI, 24, .inl (fun _ => 0))), (q79, .inl (cZ, 24, .inl (fun _ => 0))), (q87, .inl (cI, 20, .inl (fun _ => 0))), (q95, .inl (cI, 48, .inl (fun _ => 0))), (q103, .inl (cI, 24, .inl (fun _ => 0))), (q111, .inl (cI, 20, .inl (fun _ => 0))), (q120, .inl (cI, 160, .inl g_q120))]) (va_A [(h0, .inr (5, [.null, .int 0, .null, .null, .null, .null, .null, .null, .null, .null, .null, .null, .null, .null, .null, .int 0, .null, .null]))] sz)) 15 512 (va_A [(h0, .inr (5, [.null, .int 0, .null, .null, .null, .null, .null, .null, .null, .null, .null, .null, .null, .null, .null, .int 0, .null, .null]))] sz) := by
  refine Met.ofW (cc := b_Wa_init) (maxL := 4) (ret := none) (by decide) rfl ?_
  intro p e s m args below meth c s₁ B hml hv
  obtain ⟨rfl, ⟨hsz, hP, hK, hD⟩, hG⟩ := hv
  have hx := B.exec
  have hb := B.bytes
  have hr := B.returns
  have hts := atoms_spec (ws := w_Wa_init) B.pre
  have hown : s.vm.findClass R_Wa = some m.cls := findClass_of_methodNamed B.named
  have hlocks := B.notSynchronized
  have hin : meth.name = "<init>" := (name_of_methodNamed B.named B.method).1
  subst hsz
  have hD := hD.self (sz := s.heap.size)
  generalize hAe : va_A [(h0, .inr (5, [.null, .int 0, .null, .null, .null, .null, .null, .null, .null, .null, .null, .null, .null, .null, .null, .int 0, .null, .null]))] s.heap.size = A at hD hG ⊢
  have hA : ∀ q : Nat, s.heap.size ≤ q → A q := fun q h => by rw [← hAe]; exact Or.inr h
  have hS : va_S A s.heap s.heap [] := va_S.rf
  have hP : va_P (dC, dI) classes [(h0, .inr (5, [.null, .int 0, .null, .null, .null, .null, .null, .null, .null, .null, .null, .null, .null, .null, .null, .int 0, .null, .null]))] s.heap := hP
  have hl := lv_entry ([.ref h0, .ref r1]) (n := 4) (Nat.le_of_ble_eq_true rfl)
  rw [lg_entry_eq]
  generalize (lg_sl ([.ref h0, .ref r1]) ++ List.replicate (4 - (lg_sl ([.ref h0, .ref r1])).length) Slot.unset).toArray = ls at hl ⊢
  have hl : lv_has ls 4 [(0, .ref h0), (1, .ref r1)] := hl
  refine lv_aload_n hx hb d_Wa_init_0 rfl (lv_at hl 0 rfl) ?_
  refine W.objInit hx hb hown (hts _ (List.mem_cons_of_mem _ mw_214)) (hts _ (List.mem_cons_of_mem _ mw_30)) (hts _ (List.mem_cons_of_mem _ mw_31)) rfl (by rw [hml]; exact hl.1) rfl d_Wa_init_1 (Nat.le_of_ble_eq_true rfl) (Nat.le_of_ble_eq_true rfl) ?_
  refine W.eq (g2 := F0 m 4 ls []) rfl ?_
  refine lv_aload_n hx hb d_Wa_init_4 rfl (lv_at hl 0 rfl) ?_
  refine lv_bipush (v := 24) hx hb d_Wa_init_5 (by decide) ?_
  refine ka_newa (atype := .int) (ty := .int) (N' := 24) (a0 := (24, .inl (fun _ => 0))) hx hb (hts _ (List.mem_cons_of_mem _ mw_53)) rfl hK.1 hP hD hS hA 0 rfl (fun _ => rfl) (by decide) (by decide) (by decide) (Nat.le_of_ble_eq_true rfl) (Nat.le_of_ble_eq_true rfl) d_Wa_init_7 (fun q7 H hP hD hS => ?_)
  refine W.widen (k := 1) (n := 24) (Nat.le_refl _) (Nat.le_refl _) ?_
  refine va_putF (D := (dC, dI)) (ci := 5) (v := .ref q7) (ty := (.array .int)) (C := R_Wa) (T := F_Wa) (N := 18) hx hb hts (fun w h => List.mem_cons_of_mem _ (in_Wa w h)) t_Wa t_Wa_ok n_Wa hown hK.1 hP hD hS 0 rfl rfl 2 (by decide) (hts _ (List.mem_cons_of_mem _ mw_220)) (fun _ h9 => h9) rfl hin rfl (by decide +kernel) rfl rfl (Nat.le_of_ble_eq_true rfl) d_Wa_init_9 (fun H locs hP hD hS => ?_)
  have hP : va_P (dC, dI) classes [(h0, .inr (5, [.null, .int 0, .ref q7, .null, .null, .null, .null, .null, .null, .null, .null, .null, .null, .null, .null, .int 0, .null, .null])), (q7, .inl (cI, 24, .inl (fun _ => 0)))] H := hP
  have hD : va_D A [(h0, .inr (5, [.null, .int 0, .ref q7, .null, .null, .null, .null, .null, .null, .null, .null, .null, .null, .null, .null, .int 0, .null, .null])), (q7, .inl (cI, 24, .inl (fun _ => 0)))] := hD
  refine lv_aload_n hx hb d_Wa_init_12 rfl (lv_at hl 0 rfl) ?_
  refine lv_bipush (v := 24) hx hb d_Wa_init_13 (by decide) ?_
  refine ka_newa (atype := .int) (ty := .int) (N' := 24) (a0 := (24, .inl (fun _ => 0))) hx hb (hts _ (List.mem_cons_of_mem _ mw_53)) rfl hK.1 hP hD hS hA 0 rfl (fun _ => rfl) (by decide) (by decide) (by decide) (Nat.le_of_ble_eq_true rfl) (Nat.le_of_ble_eq_true rfl) d_Wa_init_15 (fun q15 H hP hD hS => ?_)
  refine W.widen (k := 2) (n := 48) (Nat.le_refl _) (Nat.le_refl _) ?_
  refine va_putF (D := (dC, dI)) (ci := 5) (v := .ref q15) (ty := (.array .int)) (C := R_Wa) (T := F_Wa) (N := 18) hx hb hts (fun w h => List.mem_cons_of_mem _ (in_Wa w h)) t_Wa t_Wa_ok n_Wa hown hK.1 hP hD hS 0 rfl rfl 3 (by decide) (hts _ (List.mem_cons_of_mem _ mw_221)) (fun _ h9 => h9) rfl hin rfl (by decide +kernel) rfl rfl (Nat.le_of_ble_eq_true rfl) d_Wa_init_17 (fun H locs hP hD hS => ?_)
  have hP : va_P (dC, dI) classes [(h0, .inr (5, [.null, .int 0, .ref q7, .ref q15, .null, .null, .null, .null, .null, .null, .null, .null, .null, .null, .null, .int 0, .null, .null])), (q7, .inl (cI, 24, .inl (fun _ => 0))), (q15, .inl (cI, 24, .inl (fun _ => 0)))] H := hP
  have hD : va_D A [(h0, .inr (5, [.null, .int 0, .ref q7, .ref q15, .null, .null, .null, .null, .null, .null, .null, .null, .null, .null, .null, .int 0, .null, .null])), (q7, .inl (cI, 24, .inl (fun _ => 0))), (q15, .inl (cI, 24, .inl (fun _ => 0)))] := hD
  refine lv_aload_n hx hb d_Wa_init_20 rfl (lv_at hl 0 rfl) ?_
  refine lv_bipush (v := 24) hx hb d_Wa_init_21 (by decide) ?_
  refine ka_newa (atype := .int) (ty := .int) (N' := 24) (a0 := (24, .inl (fun _ => 0))) hx hb (hts _ (List.mem_cons_of_mem _ mw_53)) rfl hK.1 hP hD hS hA 0 rfl (fun _ => rfl) (by decide) (by decide) (by decide) (Nat.le_of_ble_eq_true rfl) (Nat.le_of_ble_eq_true rfl) d_Wa_init_23 (fun q23 H hP hD hS => ?_)
  refine W.widen (k := 3) (n := 72) (Nat.le_refl _) (Nat.le_refl _) ?_
  refine va_putF (D := (dC, dI)) (ci := 5) (v := .ref q23) (ty := (.array .int)) (C := R_Wa) (T := F_Wa) (N := 18) hx hb hts (fun w h => List.mem_cons_of_mem _ (in_Wa w h)) t_Wa t_Wa_ok n_Wa hown hK.1 hP hD hS 0 rfl rfl 4 (by decide) (hts _ (List.mem_cons_of_mem _ mw_222)) (fun _ h9 => h9) rfl hin rfl (by decide +kernel) rfl rfl (Nat.le_of_ble_eq_true rfl) d_Wa_init_25 (fun H locs hP hD hS => ?_)
  have hP : va_P (dC, dI) classes [(h0, .inr (5, [.null, .int 0, .ref q7, .ref q15, .ref q23, .null, .null, .null, .null, .null, .null, .null, .null, .null, .null, .int 0, .null, .null])), (q7, .inl (cI, 24, .inl (fun _ => 0))), (q15, .inl (cI, 24, .inl (fun _ => 0))), (q23, .inl (cI, 24, .inl (fun _ => 0)))] H := hP
  have hD : va_D A [(h0, .inr (5, [.null, .int 0, .ref q7, .ref q15, .ref q23, .null, .null, .null, .null, .null, .null, .null, .null, .null, .null, .int 0, .null, .null])), (q7, .inl (cI, 24, .inl (fun _ => 0))), (q15, .inl (cI, 24, .inl (fun _ => 0))), (q23, .inl (cI, 24, .inl (fun _ => 0)))] := hD
  refine lv_aload_n hx hb d_Wa_init_28 rfl (lv_at hl 0 rfl) ?_
  refine lv_bipush (v := 24) hx hb d_Wa_init_29 (by decide) ?_
  refine ka_newa (atype := .int) (ty := .int) (N' := 24) (a0 := (24, .inl (fun _ => 0))) hx hb (hts _ (List.mem_cons_of_mem _ mw_53)) rfl hK.1 hP hD hS hA 0 rfl (fun _ => rfl) (by decide) (by decide) (by decide) (Nat.le_of_ble_eq_true rfl) (Nat.le_of_ble_eq_true rfl) d_Wa_init_31 (fun q31 H hP hD hS => ?_)
  refine W.widen (k := 4) (n := 96) (Nat.le_refl _) (Nat.le_refl _) ?_
  refine va_putF (D := (dC, dI)) (ci := 5) (v := .ref q31) (ty := (.array .int)) (C := R_Wa) (T := F_Wa) (N := 18) hx hb hts (fun w h => List.mem_cons_of_mem _ (in_Wa w h)) t_Wa t_Wa_ok n_Wa hown hK.1 hP hD hS 0 rfl rfl 5 (by decide) (hts _ (List.mem_cons_of_mem _ mw_223)) (fun _ h9 => h9) rfl hin rfl (by decide +kernel) rfl rfl (Nat.le_of_ble_eq_true rfl) d_Wa_init_33 (fun H locs hP hD hS => ?_)
  have hP : va_P (dC, dI) classes [(h0, .inr (5, [.null, .int 0, .ref q7, .ref q15, .ref q23, .ref q31, .null, .null, .null, .null, .null, .null, .null, .null, .null, .int 0, .null, .null])), (q7, .inl (cI, 24, .inl (fun _ => 0))), (q15, .inl (cI, 24, .inl (fun _ => 0))), (q23, .inl (cI, 24, .inl (fun _ => 0))), (q31, .inl (cI, 24, .inl (fun _ => 0)))] H := hP
  have hD : va_D A [(h0, .inr (5, [.null, .int 0, .ref q7, .ref q15, .ref q23, .ref q31, .null, .null, .null, .null, .null, .null, .null, .null, .null, .int 0, .null, .null])), (q7, .inl (cI, 24, .inl (fun _ => 0))), (q15, .inl (cI, 24, .inl (fun _ => 0))), (q23, .inl (cI, 24, .inl (fun _ => 0))), (q31, .inl (cI, 24, .inl (fun _ => 0)))] := hD
  refine lv_aload_n hx hb d_Wa_init_36 rfl (lv_at hl 0 rfl) ?_
  refine lv_bipush (v := 24) hx hb d_Wa_init_37 (by decide) ?_
  refine ka_newa (atype := .int) (ty := .int) (N' := 24) (a0 := (24, .inl (fun _ => 0))) hx hb (hts _ (List.mem_cons_of_mem _ mw_53)) rfl hK.1 hP hD hS hA 0 rfl (fun _ => rfl) (by decide) (by decide) (by decide) (Nat.le_of_ble_eq_true rfl) (Nat.le_of_ble_eq_true rfl) d_Wa_init_39 (fun q39 H hP hD hS => ?_)
  refine W.widen (k := 5) (n := 120) (Nat.le_refl _) (Nat.le_refl _) ?_
  refine va_putF (D := (dC, dI)) (ci := 5) (v := .ref q39) (ty := (.array .int)) (C := R_Wa) (T := F_Wa) (N := 18) hx hb hts (fun w h => List.mem_cons_of_mem _ (in_Wa w h)) t_Wa t_Wa_ok n_Wa hown hK.1 hP hD hS 0 rfl rfl 6 (by decide) (hts _ (List.mem_cons_of_mem _ mw_224)) (fun _ h9 => h9) rfl hin rfl (by decide +kernel) rfl rfl (Nat.le_of_ble_eq_true rfl) d_Wa_init_41 (fun H locs hP hD hS => ?_)
  have hP : va_P (dC, dI) classes [(h0, .inr (5, [.null, .int 0, .ref q7, .ref q15, .ref q23, .ref q31, .ref q39, .null, .null, .null, .null, .null, .null, .null, .null, .int 0, .null, .null])), (q7, .inl (cI, 24, .inl (fun _ => 0))), (q15, .inl (cI, 24, .inl (fun _ => 0))), (q23, .inl (cI, 24, .inl (fun _ => 0))), (q31, .inl (cI, 24, .inl (fun _ => 0))), (q39, .inl (cI, 24, .inl (fun _ => 0)))] H := hP
  have hD : va_D A [(h0, .inr (5, [.null, .int 0, .ref q7, .ref q15, .ref q23, .ref q31, .ref q39, .null, .null, .null, .null, .null, .null, .null, .null, .int 0, .null, .null])), (q7, .inl (cI, 24, .inl (fun _ => 0))), (q15, .inl (cI, 24, .inl (fun _ => 0))), (q23, .inl (cI, 24, .inl (fun _ => 0))), (q31, .inl (cI, 24, .inl (fun _ => 0))), (q39, .inl (cI, 24, .inl (fun _ => 0)))] := hD
  refine lv_aload_n hx hb d_Wa_init_44 rfl (lv_at hl 0 rfl) ?_
  refine lv_bipush (v := 24) hx hb d_Wa_init_45 (by decide) ?_
  refine ka_newa (atype := .int) (ty := .int) (N' := 24) (a0 := (24, .inl (fun _ => 0))) hx hb (hts _ (List.mem_cons_of_mem _ mw_53)) rfl hK.1 hP hD hS hA 0 rfl (fun _ => rfl) (by decide) (by decide) (by decide) (Nat.le_of_ble_eq_true rfl) (Nat.le_of_ble_eq_true rfl) d_Wa_init_47 (fun q47 H hP hD hS => ?_)
  refine W.widen (k := 6) (n := 144) (Nat.le_refl _) (Nat.le_refl _) ?_
  refine va_putF (D := (dC, dI)) (ci := 5) (v := .ref q47) (ty := (.array .int)) (C := R_Wa) (T := F_Wa) (N := 18) hx hb hts (fun w h => List.mem_cons_of_mem _ (in_Wa w h)) t_Wa t_Wa_ok n_Wa hown hK.1 hP hD hS 0 rfl rfl 7 (by decide) (hts _ (List.mem_cons_of_mem _ mw_225)) (fun _ h9 => h9) rfl hin rfl (by decide +kernel) rfl rfl (Nat.le_of_ble_eq_true rfl) d_Wa_init_49 (fun H locs hP hD hS => ?_)
  have hP : va_P (dC, dI) classes [(h0, .inr (5, [.null, .int 0, .ref q7, .ref q15, .ref q23, .ref q31, .ref q39, .ref q47, .null, .null, .null, .null, .null, .null, .null, .int 0, .null, .null])), (q7, .inl (cI, 24, .inl (fun _ => 0))), (q15, .inl (cI, 24, .inl (fun _ => 0))), (q23, .inl (cI, 24, .inl (fun _ => 0))), (q31, .inl (cI, 24, .inl (fun _ => 0))), (q39, .inl (cI, 24, .inl (fun _ => 0))), (q47, .inl (cI, 24, .inl (fun _ => 0)))] H := hP
  have hD : va_D A [(h0, .inr (5, [.null, .int 0, .ref q7, .ref q15, .ref q23, .ref q31, .ref q39, .ref q47, .null, .null, .null, .null, .null, .null, .null, .int 0, .null, .null])), (q7, .inl (cI, 24, .inl (fun _ => 0))), (q15, .inl (cI, 24, .inl (fun _ => 0))), (q23, .inl (cI, 24, .inl (fun _ => 0))), (q31, .inl (cI, 24, .inl (fun _ => 0))), (q39, .inl (cI, 24, .inl (fun _ => 0))), (q47, .inl (cI, 24, .inl (fun _ => 0)))] := hD
  refine lv_aload_n hx hb d_Wa_init_52 rfl (lv_at hl 0 rfl) ?_
  refine lv_bipush (v := 24) hx hb d_Wa_init_53 (by decide) ?_
  refine ka_newa (atype := .int) (ty := .int) (N' := 24) (a0 := (24, .inl (fun _ => 0))) hx hb (hts _ (List.mem_cons_of_mem _ mw_53)) rfl hK.1 hP hD hS hA 0 rfl (fun _ => rfl) (by decide) (by decide) (by decide) (Nat.le_of_ble_eq_true rfl) (Nat.le_of_ble_eq_true rfl) d_Wa_init_55 (fun q55 H hP hD hS => ?_)
  refine W.widen (k := 7) (n := 168) (Nat.le_refl _) (Nat.le_refl _) ?_
  refine va_putF (D := (dC, dI)) (ci := 5) (v := .ref q55) (ty := (.array .int)) (C := R_Wa) (T := F_Wa) (N := 18) hx hb hts (fun w h => List.mem_cons_of_mem _ (in_Wa w h)) t_Wa t_Wa_ok n_Wa hown hK.1 hP hD hS 0 rfl rfl 8 (by decide) (hts _ (List.mem_cons_of_mem _ mw_226)) (fun _ h9 => h9) rfl hin rfl (by decide +kernel) rfl rfl (Nat.le_of_ble_eq_true rfl) d_Wa_init_57 (fun H locs hP hD hS => ?_)
  have hP : va_P (dC, dI) classes [(h0, .inr (5, [.null, .int 0, .ref q7, .ref q15, .ref q23, .ref q31, .ref q39, .ref q47, .ref q55, .null, .null, .null, .null, .null, .null, .int 0, .null, .null])), (q7, .inl (cI, 24, .inl (fun _ => 0))), (q15, .inl (cI, 24, .inl (fun _ => 0))), (q23, .inl (cI, 24, .inl (fun _ => 0))), (q31, .inl (cI, 24, .inl (fun _ => 0))), (q39, .inl (cI, 24, .inl (fun _ => 0))), (q47, .inl (cI, 24, .inl (fun _ => 0))), (q55, .inl (cI, 24, .inl (fun _ => 0)))] H := hP
  have hD : va_D A [(h0, .inr (5, [.null, .int 0, .ref q7, .ref q15, .ref q23, .ref q31, .ref q39, .ref q47, .ref q55, .null, .null, .null, .null, .null, .null, .int 0, .null, .null])), (q7, .inl (cI, 24, .inl (fun _ => 0))), (q15, .inl (cI, 24, .inl (fun _ => 0))), (q23, .inl (cI, 24, .inl (fun _ => 0))), (q31, .inl (cI, 24, .inl (fun _ => 0))), (q39, .inl (cI, 24, .inl (fun _ => 0))), (q47, .inl (cI, 24, .inl (fun _ => 0))), (q55, .inl (cI, 24, .inl (fun _ => 0)))] := hD
  refine lv_aload_n hx hb d_Wa_init_60 rfl (lv_at hl 0 rfl) ?_
  refine lv_bipush (v := 24) hx hb d_Wa_init_61 (by decide) ?_
  refine ka_newa (atype := .int) (ty := .int) (N' := 24) (a0 := (24, .inl (fun _ => 0))) hx hb (hts _ (List.mem_cons_of_mem _ mw_53)) rfl hK.1 hP hD hS hA 0 rfl (fun _ => rfl) (by decide) (by decide) (by decide) (Nat.le_of_ble_eq_true rfl) (Nat.le_of_ble_eq_true rfl) d_Wa_init_63 (fun q63 H hP hD hS => ?_)
  refine W.widen (k := 8) (n := 192) (Nat.le_refl _) (Nat.le_refl _) ?_
  refine va_putF (D := (dC, dI)) (ci := 5) (v := .ref q63) (ty := (.array .int)) (C := R_Wa) (T := F_Wa) (N := 18) hx hb hts (fun w h => List.mem_cons_of_mem _ (in_Wa w h)) t_Wa t_Wa_ok n_Wa hown hK.1 hP hD hS 0 rfl rfl 9 (by decide) (hts _ (List.mem_cons_of_mem _ mw_227)) (fun _ h9 => h9) rfl hin rfl (by decide +kernel) rfl rfl (Nat.le_of_ble_eq_true rfl) d_Wa_init_65 (fun H locs hP hD hS => ?_)
  have hP : va_P (dC, dI) classes [(h0, .inr (5, [.null, .int 0, .ref q7, .ref q15, .ref q23, .ref q31, .ref q39, .ref q47, .ref q55, .ref q63, .null, .null, .null, .null, .null, .int 0, .null, .null])), (q7, .inl (cI, 24, .inl (fun _ => 0))), (q15, .inl (cI, 24, .inl (fun _ => 0))), (q23, .inl (cI, 24, .inl (fun _ => 0))), (q31, .inl (cI, 24, .inl (fun _ => 0))), (q39, .inl (cI, 24, .inl (fun _ => 0))), (q47, .inl (cI, 24, .inl (fun _ => 0))), (q55, .inl (cI, 24, .inl (fun _ => 0))), (q63, .inl (cI, 24, .inl (fun _ => 0)))] H := hP
  have hD : va_D A [(h0, .inr (5, [.null, .int 0, .ref q7, .ref q15, .ref q23, .ref q31, .ref q39, .ref q47, .ref q55, .ref q63, .null, .null, .null, .null, .null, .int 0, .null, .null])), (q7, .inl (cI, 24, .inl (fun _ => 0))), (q15, .inl (cI, 24, .inl (fun _ => 0))), (q23, .inl (cI, 24, .inl (fun _ => 0))), (q31, .inl (cI, 24, .inl (fun _ => 0))), (q39, .inl (cI, 24, .inl (fun _ => 0))), (q47, .inl (cI, 24, .inl (fun _ => 0))), (q55, .inl (cI, 24, .inl (fun _ => 0))), (q63, .inl (cI, 24, .inl (fun _ => 0)))] := hD
  refine lv_aload_n hx hb d_Wa_init_68 rfl (lv_at hl 0 rfl) ?_
  refine lv_bipush (v := 24) hx hb d_Wa_init_69 (by decide) ?_
  refine ka_newa (atype := .int) (ty := .int) (N' := 24) (a0 := (24, .inl (fun _ => 0))) hx hb (hts _ (List.mem_cons_of_mem _ mw_53)) rfl hK.1 hP hD hS hA 0 rfl (fun _ => rfl) (by decide) (by decide) (by decide) (Nat.le_of_ble_eq_true rfl) (Nat.le_of_ble_eq_true rfl) d_Wa_init_71 (fun q71 H hP hD hS => ?_)
  refine W.widen (k := 9) (n := 216) (Nat.le_refl _) (Nat.le_refl _) ?_
  refine va_putF (D := (dC, dI)) (ci := 5) (v := .ref q71) (ty := (.array .int)) (C := R_Wa) (T := F_Wa) (N := 18) hx hb hts (fun w h => List.mem_cons_of_mem _ (in_Wa w h)) t_Wa t_Wa_ok n_Wa hown hK.1 hP hD hS 0 rfl rfl 10 (by decide) (hts _ (List.mem_cons_of_mem _ mw_228)) (fun _ h9 => h9) rfl hin rfl (by decide +kernel) rfl rfl (Nat.le_of_ble_eq_true rfl) d_Wa_init_73 (fun H locs hP hD hS => ?_)
  have hP : va_P (dC, dI) classes [(h0, .inr (5, [.null, .int 0, .ref q7, .ref q15, .ref q23, .ref q31, .ref q39, .ref q47, .ref q55, .ref q63, .ref q71, .null, .null, .null, .null, .int 0, .null, .null])), (q7, .inl (cI, 24, .inl (fun _ => 0))), (q15, .inl (cI, 24, .inl (fun _ => 0))), (q23, .inl (cI, 24, .inl (fun _ => 0))), (q31, .inl (cI, 24, .inl (fun _ => 0))), (q39, .inl (cI, 24, .inl (fun _ => 0))), (q47, .inl (cI, 24, .inl (fun _ => 0))), (q55, .inl (cI, 24, .inl (fun _ => 0))), (q63, .inl (cI, 24, .inl (fun _ => 0))), (q71, .inl (cI, 24, .inl (fun _ => 0)))] H := hP
  have hD : va_D A [(h0, .inr (5, [.null, .int 0, .ref q7, .ref q15, .ref q23, .ref q31, .ref q39, .ref q47, .ref q55, .ref q63, .ref q71, .null, .null, .null, .null, .int 0, .null, .null])), (q7, .inl (cI, 24, .inl (fun _ => 0))), (q15, .inl (cI, 24, .inl (fun _ => 0))), (q23, .inl (cI, 24, .inl (fun _ => 0))), (q31, .inl (cI, 24, .inl (fun _ => 0))), (q39, .inl (cI, 24, .inl (fun _ => 0))), (q47, .inl (cI, 24, .inl (fun _ => 0))), (q55, .inl (cI, 24, .inl (fun _ => 0))), (q63, .inl (cI, 24, .inl (fun _ => 0))), (q71, .inl (cI, 24, .inl (fun _ => 0)))] := hD
  refine lv_aload_n hx hb d_Wa_init_76 rfl (lv_at hl 0 rfl) ?_
  refine lv_bipush (v := 24) hx hb d_Wa_init_77 (by decide) ?_
  refine ka_newa (atype := .boolean) (ty := .boolean) (N' := 24) (a0 := (24, .inl (fun _ => 0))) hx hb (hts _ (List.mem_cons_of_mem _ mw_275)) rfl hK.1 hP hD hS hA 2 rfl (fun _ => rfl) (by decide) (by decide) (by decide) (Nat.le_of_ble_eq_true rfl) (Nat.le_of_ble_eq_true rfl) d_Wa_init_79 (fun q79 H hP hD hS => ?_)
  refine W.widen (k := 10) (n := 240) (Nat.le_refl _) (Nat.le_refl _) ?_
  refine va_putF (D := (dC, dI)) (ci := 5) (v := .ref q79) (ty := (.array .boolean)) (C := R_Wa) (T := F_Wa) (N := 18) hx hb hts (fun w h => List.mem_cons_of_mem _ (in_Wa w h)) t_Wa t_Wa_ok n_Wa hown hK.1 hP hD hS 0 rfl rfl 11 (by decide) (hts _ (List.mem_cons_of_mem _ mw_229)) (fun _ h9 => h9) rfl hin rfl (by decide +kernel) rfl rfl (Nat.le_of_ble_eq_true rfl) d_Wa_init_81 (fun H locs hP hD hS => ?_)
  have hP : va_P (dC, dI) classes [(h0, .inr (5, [.null, .int 0, .ref q7, .ref q15, .ref q23, .ref q31, .ref q39, .ref q47, .ref q55, .ref q63, .ref q71, .ref q79, .null, .null, .null, .int 0, .null, .null])), (q7, .inl (cI, 24, .inl (fun _ => 0))), (q15, .inl (cI, 24, .inl (fun _ => 0))), (q23, .inl (cI, 24, .inl (fun _ => 0))), (q31, .inl (cI, 24, .inl (fun _ => 0))), (q39, .inl (cI, 24, .inl (fun _ => 0))), (q47, .inl (cI, 24, .inl (fun _ => 0))), (q55, .inl (cI, 24, .inl (fun _ => 0))), (q63, .inl (cI, 24, .inl (fun _ => 0))), (q71, .inl (cI, 24, .inl (fun _ => 0))), (q79, .inl (cZ, 24, .inl (fun _ => 0)))] H := hP
  have hD : va_D A [(h0, .inr (5, [.null, .int 0, .ref q7, .ref q15, .ref q23, .ref q31, .ref q39, .ref q47, .ref q55, .ref q63, .ref q71, .ref q79, .null, .null, .null, .int 0, .null, .null])), (q7, .inl (cI, 24, .inl (fun _ => 0))), (q15, .inl (cI, 24, .inl (fun _ => 0))), (q23, .inl (cI, 24, .inl (fun _ => 0))), (q31, .inl (cI, 24, .inl (fun _ => 0))), (q39, .inl (cI, 24, .inl (fun _ => 0))), (q47, .inl (cI, 24, .inl (fun _ => 0))), (q55, .inl (cI, 24, .inl (fun _ => 0))), (q63, .inl (cI, 24, .inl (fun _ => 0))), (q71, .inl (cI, 24, .inl (fun _ => 0))), (q79, .inl (cZ, 24, .inl (fun _ => 0)))] := hD
  refine lv_aload_n hx hb d_Wa_init_84 rfl (lv_at hl 0 rfl) ?_
  refine lv_bipush (v := 20) hx hb d_Wa_init_85 (by decide) ?_
  refine ka_newa (atype := .int) (ty := .int) (N' := 20) (a0 := (20, .inl (fun _ => 0))) hx hb (hts _ (List.mem_cons_of_mem _ mw_53)) rfl hK.1 hP hD hS hA 0 rfl (fun _ => rfl) (by decide) (by decide) (by decide) (Nat.le_of_ble_eq_true rfl) (Nat.le_of_ble_eq_true rfl) d_Wa_init_87 (fun q87 H hP hD hS => ?_)
  refine W.widen (k := 11) (n := 260) (Nat.le_refl _) (Nat.le_refl _) ?_
  refine va_putF (D := (dC, dI)) (ci := 5) (v := .ref q87) (ty := (.array .int)) (C := R_Wa) (T := F_Wa) (N := 18) hx hb hts (fun w h => List.mem_cons_of_mem _ (in_Wa w h)) t_Wa t_Wa_ok n_Wa hown hK.1 hP hD hS 0 rfl rfl 12 (by decide) (hts _ (List.mem_cons_of_mem _ mw_230)) (fun _ h9 => h9) rfl hin rfl (by decide +kernel) rfl rfl (Nat.le_of_ble_eq_true rfl) d_Wa_init_89 (fun H locs hP hD hS => ?_)
  have hP : va_P (dC, dI) classes [(h0, .inr (5, [.null, .int 0, .ref q7, .ref q15, .ref q23, .ref q31, .ref q39, .ref q47, .ref q55, .ref q63, .ref q71, .ref q79, .ref q87, .null, .null, .int 0, .null, .null])), (q7, .inl (cI, 24, .inl (fun _ => 0))), (q15, .inl (cI, 24, .inl (fun _ => 0))), (q23, .inl (cI, 24, .inl (fun _ => 0))), (q31, .inl (cI, 24, .inl (fun _ => 0))), (q39, .inl (cI, 24, .inl (fun _ => 0))), (q47, .inl (cI, 24, .inl (fun _ => 0))), (q55, .inl (cI, 24, .inl (fun _ => 0))), (q63, .inl (cI, 24, .inl (fun _ => 0))), (q71, .inl (cI, 24, .inl (fun _ => 0))), (q79, .inl (cZ, 24, .inl (fun _ => 0))), (q87, .inl (cI, 20, .inl (fun _ => 0)))] H := hP
  have hD : va_D A [(h0, .inr (5, [.null, .int 0, .ref q7, .ref q15, .ref q23, .ref q31, .ref q39, .ref q47, .ref q55, .ref q63, .ref q71, .ref q79, .ref q87, .null, .null, .int 0, .null, .null])), (q7, .inl (cI, 24, .inl (fun _ => 0))), (q15, .inl (cI, 24, .inl (fun _ => 0))), (q23, .inl (cI, 24, .inl (fun _ => 0))), (q31, .inl (cI, 24, .inl (fun _ => 0))), (q39, .inl (cI, 24, .inl (fun _ => 0))), (q47, .inl (cI, 24, .inl (fun _ => 0))), (q55, .inl (cI, 24, .inl (fun _ => 0))), (q63, .inl (cI, 24, .inl (fun _ => 0))), (q71, .inl (cI, 24, .inl (fun _ => 0))), (q79, .inl (cZ, 24, .inl (fun _ => 0))), (q87, .inl (cI, 20, .inl (fun _ => 0)))] := hD
  refine lv_aload_n hx hb d_Wa_init_92 rfl (lv_at hl 0 rfl) ?_
  refine lv_bipush (v := 48) hx hb d_Wa_init_93 (by decide) ?_
  refine ka_newa (atype := .int) (ty := .int) (N' := 48) (a0 := (48, .inl (fun _ => 0))) hx hb (hts _ (List.mem_cons_of_mem _ mw_53)) rfl hK.1 hP hD hS hA 0 rfl (fun _ => rfl) (by decide) (by decide) (by decide) (Nat.le_of_ble_eq_true rfl) (Nat.le_of_ble_eq_true rfl) d_Wa_init_95 (fun q95 H hP hD hS => ?_)
  refine W.widen (k := 12) (n := 308) (Nat.le_refl _) (Nat.le_refl _) ?_
  refine va_putF (D := (dC, dI)) (ci := 5) (v := .ref q95) (ty := (.array .int)) (C := R_Wa) (T := F_Wa) (N := 18) hx hb hts (fun w h => List.mem_cons_of_mem _ (in_Wa w h)) t_Wa t_Wa_ok n_Wa hown hK.1 hP hD hS 0 rfl rfl 13 (by decide) (hts _ (List.mem_cons_of_mem _ mw_231)) (fun _ h9 => h9) rfl hin rfl (by decide +kernel) rfl rfl (Nat.le_of_ble_eq_true rfl) d_Wa_init_97 (fun H locs hP hD hS => ?_)
  have hP : va_P (dC, dI) classes [(h0, .inr (5, [.null, .int 0, .ref q7, .ref q15, .ref q23, .ref q31, .ref q39, .ref q47, .ref q55, .ref q63, .ref q71, .ref q79, .ref q87, .ref q95, .null, .int 0, .null, .null])), (q7, .inl (cI, 24, .inl (fun _ => 0))), (q15, .inl (cI, 24, .inl (fun _ => 0))), (q23, .inl (cI, 24, .inl (fun _ => 0))), (q31, .inl (cI, 24, .inl (fun _ => 0))), (q39, .inl (cI, 24, .inl (fun _ => 0))), (q47, .inl (cI, 24, .inl (fun _ => 0))), (q55, .inl (cI, 24, .inl (fun _ => 0))), (q63, .inl (cI, 24, .inl (fun _ => 0))), (q71, .inl (cI, 24, .inl (fun _ => 0))), (q79, .inl (cZ, 24, .inl (fun _ => 0))), (q87, .inl (cI, 20, .inl (fun _ => 0))), (q95, .inl (cI, 48, .inl (fun _ => 0)))] H := hP
  have hD : va_D A [(h0, .inr (5, [.null, .int 0, .ref q7, .ref q15, .ref q23, .ref q31, .ref q39, .ref q47, .ref q55, .ref q63, .ref q71, .ref q79, .ref q87, .ref q95, .null, .int 0, .null, .null])), (q7, .inl (cI, 24, .inl (fun _ => 0))), (q15, .inl (cI, 24, .inl (fun _ => 0))), (q23, .inl (cI, 24, .inl (fun _ => 0))), (q31, .inl (cI, 24, .inl (fun _ => 0))), (q39, .inl (cI, 24, .inl (fun _ => 0))), (q47, .inl (cI, 24, .inl (fun _ => 0))), (q55, .inl (cI, 24, .inl (fun _ => 0))), (q63, .inl (cI, 24, .inl (fun _ => 0))), (q71, .inl (cI, 24, .inl (fun _ => 0))), (q79, .inl (cZ, 24, .inl (fun _ => 0))), (q87, .inl (cI, 20, .inl (fun _ => 0))), (q95, .inl (cI, 48, .inl (fun _ => 0)))] := hD
  refine lv_aload_n hx hb d_Wa_init_100 rfl (lv_at hl 0 rfl) ?_
  refine lv_bipush (v := 24) hx hb d_Wa_init_101 (by decide) ?_
  refine ka_newa (atype := .int) (ty := .int) (N' := 24) (a0 := (24, .inl (fun _ => 0))) hx hb (hts _ (List.mem_cons_of_mem _ mw_53)) rfl hK.1 hP hD hS hA 0 rfl (fun _ => rfl) (by decide) (by decide) (by decide) (Nat.le_of_ble_eq_true rfl) (Nat.le_of_ble_eq_true rfl) d_Wa_init_103 (fun q103 H hP hD hS => ?_)
  refine W.widen (k := 13) (n := 332) (Nat.le_refl _) (Nat.le_refl _) ?_
  refine va_putF (D := (dC, dI)) (ci := 5) (v := .ref q103) (ty := (.array .int)) (C := R_Wa) (T := F_Wa) (N := 18) hx hb hts (fun w h => List.mem_cons_of_mem _ (in_Wa w h)) t_Wa t_Wa_ok n_Wa hown hK.1 hP hD hS 0 rfl rfl 14 (by decide) (hts _ (List.mem_cons_of_mem _ mw_232)) (fun _ h9 => h9) rfl hin rfl (by decide +kernel) rfl rfl (Nat.le_of_ble_eq_true rfl) d_Wa_init_105 (fun H locs hP hD hS => ?_)
  have hP : va_P (dC, dI) classes [(h0, .inr (5, [.null, .int 0, .ref q7, .ref q15, .ref q23, .ref q31, .ref q39, .ref q47, .ref q55, .ref q63, .ref q71, .ref q79, .ref q87, .ref q95, .ref q103, .int 0, .null, .null])), (q7, .inl (cI, 24, .inl (fun _ => 0))), (q15, .inl (cI, 24, .inl (fun _ => 0))), (q23, .inl (cI, 24, .inl (fun _ => 0))), (q31, .inl (cI, 24, .inl (fun _ => 0))), (q39, .inl (cI, 24, .inl (fun _ => 0))), (q47, .inl (cI, 24, .inl (fun _ => 0))), (q55, .inl (cI, 24, .inl (fun _ => 0))), (q63, .inl (cI, 24, .inl (fun _ => 0))), (q71, .inl (cI, 24, .inl (fun _ => 0))), (q79, .inl (cZ, 24, .inl (fun _ => 0))), (q87, .inl (cI, 20, .inl (fun _ => 0))), (q95, .inl (cI, 48, .inl (fun _ => 0))), (q103, .inl (cI, 24, .inl (fun _ => 0)))] H := hP
  have hD : va_D A [(h0, .inr (5, [.null, .int 0, .ref q7, .ref q15, .ref q23, .ref q31, .ref q39, .ref q47, .ref q55, .ref q63, .ref q71, .ref q79, .ref q87, .ref q95, .ref q103, .int 0, .null, .null])), (q7, .inl (cI, 24, .inl (fun _ => 0))), (q15, .inl (cI, 24, .inl (fun _ => 0))), (q23, .inl (cI, 24, .inl (fun _ => 0))), (q31, .inl (cI, 24, .inl (fun _ => 0))), (q39, .inl (cI, 24, .inl (fun _ => 0))), (q47, .inl (cI, 24, .inl (fun _ => 0))), (q55, .inl (cI, 24, .inl (fun _ => 0))), (q63, .inl (cI, 24, .inl (fun _ => 0))), (q71, .inl (cI, 24, .inl (fun _ => 0))), (q79, .inl (cZ, 24, .inl (fun _ => 0))), (q87, .inl (cI, 20, .inl (fun _ => 0))), (q95, .inl (cI, 48, .inl (fun _ => 0))), (q103, .inl (cI, 24, .inl (fun _ => 0)))] := hD
  refine lv_aload_n hx hb d_Wa_init_108 rfl (lv_at hl 0 rfl) ?_
  refine lv_bipush (v := 20) hx hb d_Wa_init_109 (by decide) ?_
  refine ka_newa (atype := .int) (ty := .int) (N' := 20) (a0 := (20, .inl (fun _ => 0))) hx hb (hts _ (List.mem_cons_of_mem _ mw_53)) rfl hK.1 hP hD hS hA 0 rfl (fun _ => rfl) (by decide) (by decide) (by decide) (Nat.le_of_ble_eq_true rfl) (Nat.le_of_ble_eq_true rfl) d_Wa_init_111 (fun q111 H hP hD hS => ?_)
  refine W.widen (k := 14) (n := 352) (Nat.le_refl _) (Nat.le_refl _) ?_
  refine va_putF (D := (dC, dI)) (ci := 5) (v := .ref q111) (ty := (.array .int)) (C := R_Wa) (T := F_Wa) (N := 18) hx hb hts (fun w h => List.mem_cons_of_mem _ (in_Wa w h)) t_Wa t_Wa_ok n_Wa hown hK.1 hP hD hS 0 rfl rfl 16 (by decide) (hts _ (List.mem_cons_of_mem _ mw_236)) (fun _ h9 => h9) rfl hin rfl (by decide +kernel) rfl rfl (Nat.le_of_ble_eq_true rfl) d_Wa_init_113 (fun H locs hP hD hS => ?_)
  have hP : va_P (dC, dI) classes [(h0, .inr (5, [.null, .int 0, .ref q7, .ref q15, .ref q23, .ref q31, .ref q39, .ref q47, .ref q55, .ref q63, .ref q71, .ref q79, .ref q87, .ref q95, .ref q103, .int 0, .ref q111, .null])), (q7, .inl (cI, 24, .inl (fun _ => 0))), (q15, .inl (cI, 24, .inl (fun _ => 0))), (q23, .inl (cI, 24, .inl (fun _ => 0))), (q31, .inl (cI, 24, .inl (fun _ => 0))), (q39, .inl (cI, 24, .inl (fun _ => 0))), (q47, .inl (cI, 24, .inl (fun _ => 0))), (q55, .inl (cI, 24, .inl (fun _ => 0))), (q63, .inl (cI, 24, .inl (fun _ => 0))), (q71, .inl (cI, 24, .inl (fun _ => 0))), (q79, .inl (cZ, 24, .inl (fun _ => 0))), (q87, .inl (cI, 20, .inl (fun _ => 0))), (q95, .inl (cI, 48, .inl (fun _ => 0))), (q103, .inl (cI, 24, .inl (fun _ => 0))), (q111, .inl (cI, 20, .inl (fun _ => 0)))] H := hP
  have hD : va_D A [(h0, .inr (5, [.null, .int 0, .ref q7, .ref q15, .ref q23, .ref q31, .ref q39, .ref q47, .ref q55, .ref q63, .ref q71, .ref q79, .ref q87, .ref q95, .ref q103, .int 0, .ref q111, .null])), (q7, .inl (cI, 24, .inl (fun _ => 0))), (q15, .inl (cI, 24, .inl (fun _ => 0))), (q23, .inl (cI, 24, .inl (fun _ => 0))), (q31, .inl (cI, 24, .inl (fun _ => 0))), (q39, .inl (cI, 24, .inl (fun _ => 0))), (q47, .inl (cI, 24, .inl (fun _ => 0))), (q55, .inl (cI, 24, .inl (fun _ => 0))), (q63, .inl (cI, 24, .inl (fun _ => 0))), (q71, .inl (cI, 24, .inl (fun _ => 0))), (q79, .inl (cZ, 24, .inl (fun _ => 0))), (q87, .inl (cI, 20, .inl (fun _ => 0))), (q95, .inl (cI, 48, .inl (fun _ => 0))), (q103, .inl (cI, 24, .inl (fun _ => 0))), (q111, .inl (cI, 20, .inl (fun _ => 0)))] := hD
  refine lv_aload_n hx hb d_Wa_init_116 rfl (lv_at hl 0 rfl) ?_
  refine lv_sipush (v := 160) hx hb d_Wa_init_117 (by decide) ?_
  refine ka_newa (atype := .int) (ty := .int) (N' := 160) (a0 := (160, .inl (fun _ => 0))) hx hb (hts _ (List.mem_cons_of_mem _ mw_53)) rfl hK.1 hP hD hS hA 0 rfl (fun _ => rfl) (by decide) (by decide) (by decide) (Nat.le_of_ble_eq_true rfl) (Nat.le_of_ble_eq_true rfl) d_Wa_init_120 (fun q120 H hP hD hS => ?_)
  refine W.widen (k := 15) (n := 512) (Nat.le_refl _) (Nat.le_refl _) ?_
  refine va_putF (D := (dC, dI)) (ci := 5) (v := .ref q120) (ty := (.array .int)) (C := R_Wa) (T := F_Wa) (N := 18) hx hb hts (fun w h => List.mem_cons_of_mem _ (in_Wa w h)) t_Wa t_Wa_ok n_Wa hown hK.1 hP hD hS 0 rfl rfl 17 (by decide) (hts _ (List.mem_cons_of_mem _ mw_237)) (fun _ h9 => h9) rfl hin rfl (by decide +kernel) rfl rfl (Nat.le_of_ble_eq_true rfl) d_Wa_init_122 (fun H locs hP hD hS => ?_)
  have hP : va_P (dC, dI) classes [(h0, .inr (5, [.null, .int 0, .ref q7, .ref q15, .ref q23, .ref q31, .ref q39, .ref q47, .ref q55, .ref q63, .ref q71, .ref q79, .ref q87, .ref q95, .ref q103, .int 0, .ref q111, .ref q120])), (q7, .inl (cI, 24, .inl (fun _ => 0))), (q15, .inl (cI, 24, .inl (fun _ => 0))), (q23, .inl (cI, 24, .inl (fun _ => 0))), (q31, .inl (cI, 24, .inl (fun _ => 0))), (q39, .inl (cI, 24, .inl (fun _ => 0))), (q47, .inl (cI, 24, .inl (fun _ => 0))), (q55, .inl (cI, 24, .inl (fun _ => 0))), (q63, .inl (cI, 24, .inl (fun _ => 0))), (q71, .inl (cI, 24, .inl (fun _ => 0))), (q79, .inl (cZ, 24, .inl (fun _ => 0))), (q87, .inl (cI, 20, .inl (fun _ => 0))), (q95, .inl (cI, 48, .inl (fun _ => 0))), (q103, .inl (cI, 24, .inl (fun _ => 0))), (q111, .inl (cI, 20, .inl (fun _ => 0))), (q120, .inl (cI, 160, .inl (fun _ => 0)))] H := hP
  have hD : va_D A [(h0, .inr (5, [.null, .int 0, .ref q7, .ref q15, .ref q23, .ref q31, .ref q39, .ref q47, .ref q55, .ref q63, .ref q71, .ref q79, .ref q87, .ref q95, .ref q103, .int 0, .ref q111, .ref q120])), (q7, .inl (cI, 24, .inl (fun _ => 0))), (q15, .inl (cI, 24, .inl (fun _ => 0))), (q23, .inl (cI, 24, .inl (fun _ => 0))), (q31, .inl (cI, 24, .inl (fun _ => 0))), (q39, .inl (cI, 24, .inl (fun _ => 0))), (q47, .inl (cI, 24, .inl (fun _ => 0))), (q55, .inl (cI, 24, .inl (fun _ => 0))), (q63, .inl (cI, 24, .inl (fun _ => 0))), (q71, .inl (cI, 24, .inl (fun _ => 0))), (q79, .inl (cZ, 24, .inl (fun _ => 0))), (q87, .inl (cI, 20, .inl (fun _ => 0))), (q95, .inl (cI, 48, .inl (fun _ => 0))), (q103, .inl (cI, 24, .inl (fun _ => 0))), (q111, .inl (cI, 20, .inl (fun _ => 0))), (q120, .inl (cI, 160, .inl (fun _ => 0)))] := hD
  refine lv_aload_n hx hb d_Wa_init_125 rfl (lv_at hl 0 rfl) ?_
  refine lv_aload_n hx hb d_Wa_init_126 rfl (lv_at hl 1 rfl) ?_
  refine va_putF (D := (dC, dI)) (ci := 5) (v := .ref r1) (ty := (.object "BreweryHouse$Stock")) (C := R_Wa) (T := F_Wa) (N := 18) hx hb hts (fun w h => List.mem_cons_of_mem _ (in_Wa w h)) t_Wa t_Wa_ok n_Wa hown hK.1 hP hD hS 0 rfl rfl 0 (by decide) (hts _ (List.mem_cons_of_mem _ mw_217)) (fun _ h9 => h9) rfl hin rfl (by decide +kernel) rfl rfl (Nat.le_of_ble_eq_true rfl) d_Wa_init_127 (fun H locs hP hD hS => ?_)
  have hP : va_P (dC, dI) classes [(h0, .inr (5, [.ref r1, .int 0, .ref q7, .ref q15, .ref q23, .ref q31, .ref q39, .ref q47, .ref q55, .ref q63, .ref q71, .ref q79, .ref q87, .ref q95, .ref q103, .int 0, .ref q111, .ref q120])), (q7, .inl (cI, 24, .inl (fun _ => 0))), (q15, .inl (cI, 24, .inl (fun _ => 0))), (q23, .inl (cI, 24, .inl (fun _ => 0))), (q31, .inl (cI, 24, .inl (fun _ => 0))), (q39, .inl (cI, 24, .inl (fun _ => 0))), (q47, .inl (cI, 24, .inl (fun _ => 0))), (q55, .inl (cI, 24, .inl (fun _ => 0))), (q63, .inl (cI, 24, .inl (fun _ => 0))), (q71, .inl (cI, 24, .inl (fun _ => 0))), (q79, .inl (cZ, 24, .inl (fun _ => 0))), (q87, .inl (cI, 20, .inl (fun _ => 0))), (q95, .inl (cI, 48, .inl (fun _ => 0))), (q103, .inl (cI, 24, .inl (fun _ => 0))), (q111, .inl (cI, 20, .inl (fun _ => 0))), (q120, .inl (cI, 160, .inl (fun _ => 0)))] H := hP
  have hD : va_D A [(h0, .inr (5, [.ref r1, .int 0, .ref q7, .ref q15, .ref q23, .ref q31, .ref q39, .ref q47, .ref q55, .ref q63, .ref q71, .ref q79, .ref q87, .ref q95, .ref q103, .int 0, .ref q111, .ref q120])), (q7, .inl (cI, 24, .inl (fun _ => 0))), (q15, .inl (cI, 24, .inl (fun _ => 0))), (q23, .inl (cI, 24, .inl (fun _ => 0))), (q31, .inl (cI, 24, .inl (fun _ => 0))), (q39, .inl (cI, 24, .inl (fun _ => 0))), (q47, .inl (cI, 24, .inl (fun _ => 0))), (q55, .inl (cI, 24, .inl (fun _ => 0))), (q63, .inl (cI, 24, .inl (fun _ => 0))), (q71, .inl (cI, 24, .inl (fun _ => 0))), (q79, .inl (cZ, 24, .inl (fun _ => 0))), (q87, .inl (cI, 20, .inl (fun _ => 0))), (q95, .inl (cI, 48, .inl (fun _ => 0))), (q103, .inl (cI, 24, .inl (fun _ => 0))), (q111, .inl (cI, 20, .inl (fun _ => 0))), (q120, .inl (cI, 160, .inl (fun _ => 0)))] := hD
  refine lv_iconst (v := 0) hx hb d_Wa_init_130 (by decide) ?_
  refine lv_istore_n hx hb d_Wa_init_131 rfl hl (by decide) rfl (fun ls hl => ?_)
  have hl : lv_has ls 4 [(2, .int 0), (0, .ref h0), (1, .ref r1)] := hl
  have hl : lv_has ls 4 [(2, .int (nI 0)), (0, .ref h0), (1, .ref r1)] := lv_sub hl [0, 1, 2] rfl
  refine lp_ind (σ := (Nat → Int32)) (fun i x H locs ls => x = ndO i ∧ va_P (dC, dI) classes [(h0, .inr (5, [.ref r1, .int 0, .ref q7, .ref q15, .ref q23, .ref q31, .ref q39, .ref q47, .ref q55, .ref q63, .ref q71, .ref q79, .ref q87, .ref q95, .ref q103, .int 0, .ref q111, .ref q120])), (q7, .inl (cI, 24, .inl (fun _ => 0))), (q15, .inl (cI, 24, .inl (fun _ => 0))), (q23, .inl (cI, 24, .inl (fun _ => 0))), (q31, .inl (cI, 24, .inl (fun _ => 0))), (q39, .inl (cI, 24, .inl (fun _ => 0))), (q47, .inl (cI, 24, .inl (fun _ => 0))), (q55, .inl (cI, 24, .inl (fun _ => 0))), (q63, .inl (cI, 24, .inl (fun _ => 0))), (q71, .inl (cI, 24, .inl (fun _ => 0))), (q79, .inl (cZ, 24, .inl (fun _ => 0))), (q87, .inl (cI, 20, .inl (fun _ => 0))), (q95, .inl (cI, 48, .inl (fun _ => 0))), (q103, .inl (cI, 24, .inl (fun _ => 0))), (q111, .inl (cI, 20, .inl (fun _ => 0))), (q120, .inl (cI, 160, .inl x))] H ∧ va_D A [(h0, .inr (5, [.ref r1, .int 0, .ref q7, .ref q15, .ref q23, .ref q31, .ref q39, .ref q47, .ref q55, .ref q63, .ref q71, .ref q79, .ref q87, .ref q95, .ref q103, .int 0, .ref q111, .ref q120])), (q7, .inl (cI, 24, .inl (fun _ => 0))), (q15, .inl (cI, 24, .inl (fun _ => 0))), (q23, .inl (cI, 24, .inl (fun _ => 0))), (q31, .inl (cI, 24, .inl (fun _ => 0))), (q39, .inl (cI, 24, .inl (fun _ => 0))), (q47, .inl (cI, 24, .inl (fun _ => 0))), (q55, .inl (cI, 24, .inl (fun _ => 0))), (q63, .inl (cI, 24, .inl (fun _ => 0))), (q71, .inl (cI, 24, .inl (fun _ => 0))), (q79, .inl (cZ, 24, .inl (fun _ => 0))), (q87, .inl (cI, 20, .inl (fun _ => 0))), (q95, .inl (cI, 48, .inl (fun _ => 0))), (q103, .inl (cI, 24, .inl (fun _ => 0))), (q111, .inl (cI, 20, .inl (fun _ => 0))), (q120, .inl (cI, 160, .inl x))] ∧ va_S A s.heap H locs ∧ lv_has ls 4 [(2, .int (nI i)), (0, .ref h0), (1, .ref r1)]) 132 160 ?_ ?_ 0 ((fun _ => 0)) _ _ _ (Nat.zero_le _) ⟨ndO_0, hP, hD, hS, hl⟩
  · intro i x H locs ls hi hI hki
    have hI := hI
    obtain ⟨hN, hP, hD, hS, hl⟩ := hI
    have hP : va_P (dC, dI) classes [(h0, .inr (5, [.ref r1, .int 0, .ref q7, .ref q15, .ref q23, .ref q31, .ref q39, .ref q47, .ref q55, .ref q63, .ref q71, .ref q79, .ref q87, .ref q95, .ref q103, .int 0, .ref q111, .ref q120])), (q7, .inl (cI, 24, .inl (fun _ => 0))), (q15, .inl (cI, 24, .inl (fun _ => 0))), (q23, .inl (cI, 24, .inl (fun _ => 0))), (q31, .inl (cI, 24, .inl (fun _ => 0))), (q39, .inl (cI, 24, .inl (fun _ => 0))), (q47, .inl (cI, 24, .inl (fun _ => 0))), (q55, .inl (cI, 24, .inl (fun _ => 0))), (q63, .inl (cI, 24, .inl (fun _ => 0))), (q71, .inl (cI, 24, .inl (fun _ => 0))), (q79, .inl (cZ, 24, .inl (fun _ => 0))), (q87, .inl (cI, 20, .inl (fun _ => 0))), (q95, .inl (cI, 48, .inl (fun _ => 0))), (q103, .inl (cI, 24, .inl (fun _ => 0))), (q111, .inl (cI, 20, .inl (fun _ => 0))), (q120, .inl (cI, 160, .inl x))] H := hP
    have hD : va_D A [(h0, .inr (5, [.ref r1, .int 0, .ref q7, .ref q15, .ref q23, .ref q31, .ref q39, .ref q47, .ref q55, .ref q63, .ref q71, .ref q79, .ref q87, .ref q95, .ref q103, .int 0, .ref q111, .ref q120])), (q7, .inl (cI, 24, .inl (fun _ => 0))), (q15, .inl (cI, 24, .inl (fun _ => 0))), (q23, .inl (cI, 24, .inl (fun _ => 0))), (q31, .inl (cI, 24, .inl (fun _ => 0))), (q39, .inl (cI, 24, .inl (fun _ => 0))), (q47, .inl (cI, 24, .inl (fun _ => 0))), (q55, .inl (cI, 24, .inl (fun _ => 0))), (q63, .inl (cI, 24, .inl (fun _ => 0))), (q71, .inl (cI, 24, .inl (fun _ => 0))), (q79, .inl (cZ, 24, .inl (fun _ => 0))), (q87, .inl (cI, 20, .inl (fun _ => 0))), (q95, .inl (cI, 48, .inl (fun _ => 0))), (q103, .inl (cI, 24, .inl (fun _ => 0))), (q111, .inl (cI, 20, .inl (fun _ => 0))), (q120, .inl (cI, 160, .inl x))] := hD
    have hl : lv_has ls 4 [(2, .int (nI i)), (0, .ref h0), (1, .ref r1)] := hl
    refine lv_iload_n hx hb d_Wa_init_132 rfl (lv_at hl 0 rfl) ?_
    refine lv_aload_n hx hb d_Wa_init_133 rfl (lv_at hl 1 rfl) ?_
    refine va_get (D := (dC, dI)) (ci := 5) (v := .ref q120) (C := R_Wa) (T := F_Wa) (N := 18) hx hb hts (fun w h => List.mem_cons_of_mem _ (in_Wa w h)) hown hK.1 hP 0 rfl rfl 17 (by decide) (hts _ (List.mem_cons_of_mem _ mw_237)) (fun _ h9 => h9) rfl d_Wa_init_134 ?_
    refine va_alen hx hb hK.1 hP 15 0 rfl rfl (v := 160) rfl d_Wa_init_137 ?_
    refine lv_icmp_ge (tgt := 196) hx hb d_Wa_init_138 (by decide) (fun h => absurd h (show ¬ (160 : Int32) ≤ nI i from nI_ge hi (by decide))) (fun _ => ?_)
    refine lv_aload_n hx hb d_Wa_init_141 rfl (lv_at hl 1 rfl) ?_
    refine va_get (D := (dC, dI)) (ci := 5) (v := .ref q120) (C := R_Wa) (T := F_Wa) (N := 18) hx hb hts (fun w h => List.mem_cons_of_mem _ (in_Wa w h)) hown hK.1 hP 0 rfl rfl 17 (by decide) (hts _ (List.mem_cons_of_mem _ mw_237)) (fun _ h9 => h9) rfl d_Wa_init_142 ?_
    refine lv_iload_n hx hb d_Wa_init_145 rfl (lv_at hl 0 rfl) ?_
    refine lv_iconst (v := (-1)) hx hb d_Wa_init_146 (by decide) ?_
    refine va_iast hx hb hK.1 hP hD hS 15 0 rfl rfl (vp_in_nI hi (by decide)) d_Wa_init_147 (fun H locs hP hD hS => ?_)
    have hP : va_P (dC, dI) classes [(h0, .inr (5, [.ref r1, .int 0, .ref q7, .ref q15, .ref q23, .ref q31, .ref q39, .ref q47, .ref q55, .ref q63, .ref q71, .ref q79, .ref q87, .ref q95, .ref q103, .int 0, .ref q111, .ref q120])), (q7, .inl (cI, 24, .inl (fun _ => 0))), (q15, .inl (cI, 24, .inl (fun _ => 0))), (q23, .inl (cI, 24, .inl (fun _ => 0))), (q31, .inl (cI, 24, .inl (fun _ => 0))), (q39, .inl (cI, 24, .inl (fun _ => 0))), (q47, .inl (cI, 24, .inl (fun _ => 0))), (q55, .inl (cI, 24, .inl (fun _ => 0))), (q63, .inl (cI, 24, .inl (fun _ => 0))), (q71, .inl (cI, 24, .inl (fun _ => 0))), (q79, .inl (cZ, 24, .inl (fun _ => 0))), (q87, .inl (cI, 20, .inl (fun _ => 0))), (q95, .inl (cI, 48, .inl (fun _ => 0))), (q103, .inl (cI, 24, .inl (fun _ => 0))), (q111, .inl (cI, 20, .inl (fun _ => 0))), (q120, .inl (cI, 160, .inl ((upd x ((nI i) : Int32).toNatClampNeg (-1)))))] H := hP
    have hD : va_D A [(h0, .inr (5, [.ref r1, .int 0, .ref q7, .ref q15, .ref q23, .ref q31, .ref q39, .ref q47, .ref q55, .ref q63, .ref q71, .ref q79, .ref q87, .ref q95, .ref q103, .int 0, .ref q111, .ref q120])), (q7, .inl (cI, 24, .inl (fun _ => 0))), (q15, .inl (cI, 24, .inl (fun _ => 0))), (q23, .inl (cI, 24, .inl (fun _ => 0))), (q31, .inl (cI, 24, .inl (fun _ => 0))), (q39, .inl (cI, 24, .inl (fun _ => 0))), (q47, .inl (cI, 24, .inl (fun _ => 0))), (q55, .inl (cI, 24, .inl (fun _ => 0))), (q63, .inl (cI, 24, .inl (fun _ => 0))), (q71, .inl (cI, 24, .inl (fun _ => 0))), (q79, .inl (cZ, 24, .inl (fun _ => 0))), (q87, .inl (cI, 20, .inl (fun _ => 0))), (q95, .inl (cI, 48, .inl (fun _ => 0))), (q103, .inl (cI, 24, .inl (fun _ => 0))), (q111, .inl (cI, 20, .inl (fun _ => 0))), (q120, .inl (cI, 160, .inl ((upd x ((nI i) : Int32).toNatClampNeg (-1)))))] := hD
    generalize h147 : (upd x ((nI i) : Int32).toNatClampNeg (-1)) = f147_1 at hP hD
    refine lv_bipush (v := 9) hx hb d_Wa_init_148 (by decide) ?_
    refine lv_istore_n hx hb d_Wa_init_150 rfl hl (by decide) rfl (fun ls hl => ?_)
    have hl : lv_has ls 4 [(3, .int 9), (2, .int (nI i)), (0, .ref h0), (1, .ref r1)] := hl
    have hl : lv_has ls 4 [(3, .int (pv 0)), (2, .int (nI i)), (0, .ref h0), (1, .ref r1)] := lv_sub hl [0, 1, 2, 3] rfl
    refine lp_ind (σ := (Nat → Int32)) (fun j x H locs ls => x = upd (ndO i) i (ndJ i j) ∧ va_P (dC, dI) classes [(h0, .inr (5, [.ref r1, .int 0, .ref q7, .ref q15, .ref q23, .ref q31, .ref q39, .ref q47, .ref q55, .ref q63, .ref q71, .ref q79, .ref q87, .ref q95, .ref q103, .int 0, .ref q111, .ref q120])), (q7, .inl (cI, 24, .inl (fun _ => 0))), (q15, .inl (cI, 24, .inl (fun _ => 0))), (q23, .inl (cI, 24, .inl (fun _ => 0))), (q31, .inl (cI, 24, .inl (fun _ => 0))), (q39, .inl (cI, 24, .inl (fun _ => 0))), (q47, .inl (cI, 24, .inl (fun _ => 0))), (q55, .inl (cI, 24, .inl (fun _ => 0))), (q63, .inl (cI, 24, .inl (fun _ => 0))), (q71, .inl (cI, 24, .inl (fun _ => 0))), (q79, .inl (cZ, 24, .inl (fun _ => 0))), (q87, .inl (cI, 20, .inl (fun _ => 0))), (q95, .inl (cI, 48, .inl (fun _ => 0))), (q103, .inl (cI, 24, .inl (fun _ => 0))), (q111, .inl (cI, 20, .inl (fun _ => 0))), (q120, .inl (cI, 160, .inl x))] H ∧ va_D A [(h0, .inr (5, [.ref r1, .int 0, .ref q7, .ref q15, .ref q23, .ref q31, .ref q39, .ref q47, .ref q55, .ref q63, .ref q71, .ref q79, .ref q87, .ref q95, .ref q103, .int 0, .ref q111, .ref q120])), (q7, .inl (cI, 24, .inl (fun _ => 0))), (q15, .inl (cI, 24, .inl (fun _ => 0))), (q23, .inl (cI, 24, .inl (fun _ => 0))), (q31, .inl (cI, 24, .inl (fun _ => 0))), (q39, .inl (cI, 24, .inl (fun _ => 0))), (q47, .inl (cI, 24, .inl (fun _ => 0))), (q55, .inl (cI, 24, .inl (fun _ => 0))), (q63, .inl (cI, 24, .inl (fun _ => 0))), (q71, .inl (cI, 24, .inl (fun _ => 0))), (q79, .inl (cZ, 24, .inl (fun _ => 0))), (q87, .inl (cI, 20, .inl (fun _ => 0))), (q95, .inl (cI, 48, .inl (fun _ => 0))), (q103, .inl (cI, 24, .inl (fun _ => 0))), (q111, .inl (cI, 20, .inl (fun _ => 0))), (q120, .inl (cI, 160, .inl x))] ∧ va_S A s.heap H locs ∧ lv_has ls 4 [(3, .int (pv j)), (2, .int (nI i)), (0, .ref h0), (1, .ref r1)]) 151 10 ?_ ?_ 0 (f147_1) _ _ _ (Nat.zero_le _) ⟨h147.symm.trans (by rw [hN, nIc i hi]; rfl), hP, hD, hS, hl⟩
    · intro j x H locs ls hj hI hkj
      have hI := hI
      obtain ⟨hN2, hP, hD, hS, hl⟩ := hI
      have hP : va_P (dC, dI) classes [(h0, .inr (5, [.ref r1, .int 0, .ref q7, .ref q15, .ref q23, .ref q31, .ref q39, .ref q47, .ref q55, .ref q63, .ref q71, .ref q79, .ref q87, .ref q95, .ref q103, .int 0, .ref q111, .ref q120])), (q7, .inl (cI, 24, .inl (fun _ => 0))), (q15, .inl (cI, 24, .inl (fun _ => 0))), (q23, .inl (cI, 24, .inl (fun _ => 0))), (q31, .inl (cI, 24, .inl (fun _ => 0))), (q39, .inl (cI, 24, .inl (fun _ => 0))), (q47, .inl (cI, 24, .inl (fun _ => 0))), (q55, .inl (cI, 24, .inl (fun _ => 0))), (q63, .inl (cI, 24, .inl (fun _ => 0))), (q71, .inl (cI, 24, .inl (fun _ => 0))), (q79, .inl (cZ, 24, .inl (fun _ => 0))), (q87, .inl (cI, 20, .inl (fun _ => 0))), (q95, .inl (cI, 48, .inl (fun _ => 0))), (q103, .inl (cI, 24, .inl (fun _ => 0))), (q111, .inl (cI, 20, .inl (fun _ => 0))), (q120, .inl (cI, 160, .inl x))] H := hP
      have hD : va_D A [(h0, .inr (5, [.ref r1, .int 0, .ref q7, .ref q15, .ref q23, .ref q31, .ref q39, .ref q47, .ref q55, .ref q63, .ref q71, .ref q79, .ref q87, .ref q95, .ref q103, .int 0, .ref q111, .ref q120])), (q7, .inl (cI, 24, .inl (fun _ => 0))), (q15, .inl (cI, 24, .inl (fun _ => 0))), (q23, .inl (cI, 24, .inl (fun _ => 0))), (q31, .inl (cI, 24, .inl (fun _ => 0))), (q39, .inl (cI, 24, .inl (fun _ => 0))), (q47, .inl (cI, 24, .inl (fun _ => 0))), (q55, .inl (cI, 24, .inl (fun _ => 0))), (q63, .inl (cI, 24, .inl (fun _ => 0))), (q71, .inl (cI, 24, .inl (fun _ => 0))), (q79, .inl (cZ, 24, .inl (fun _ => 0))), (q87, .inl (cI, 20, .inl (fun _ => 0))), (q95, .inl (cI, 48, .inl (fun _ => 0))), (q103, .inl (cI, 24, .inl (fun _ => 0))), (q111, .inl (cI, 20, .inl (fun _ => 0))), (q120, .inl (cI, 160, .inl x))] := hD
      have hl : lv_has ls 4 [(3, .int (pv j)), (2, .int (nI i)), (0, .ref h0), (1, .ref r1)] := hl
      refine lv_iload_n hx hb d_Wa_init_151 rfl (lv_at hl 0 rfl) ?_
      refine lv_if_lt (tgt := 190) hx hb d_Wa_init_152 (by decide) (fun h => absurd h (pv_0 j hj)) (fun _ => ?_)
      refine va_getsN hx hb hG.1 hS hown (va_Nw.use rfl (hK.2 _ nw_215)) (fun _ h9 => h9) d_Wa_init_155 ?_
      refine lv_iload_n hx hb d_Wa_init_158 rfl (lv_at hl 1 rfl) ?_
      refine lv_iconst (v := 4) hx hb d_Wa_init_159 (by decide) ?_
      refine lv_ishr hx hb d_Wa_init_160 ?_
      refine W.eq (g2 := F0 m 161 ls [.int (sh4 i), .ref tPA]) rfl ?_
      refine lv_bipush (v := 10) hx hb d_Wa_init_161 (by decide) ?_
      refine lv_imul hx hb d_Wa_init_163 ?_
      refine lv_iload_n hx hb d_Wa_init_164 rfl (lv_at hl 0 rfl) ?_
      refine lv_iadd hx hb d_Wa_init_165 ?_
      refine va_ti hx hb hG.2.1 hS (ir_pass hi hj) (v := .int (psT ((((sh4 i) * 10) + (pv j))))) rfl d_Wa_init_166 ?_
      refine lv_topi (fun z166_2 ez166_2 => ?_)
      refine lv_iload_n hx hb d_Wa_init_167 rfl (lv_at hl 1 rfl) ?_
      refine lv_bipush (v := 15) hx hb d_Wa_init_168 (by decide) ?_
      refine lv_iand hx hb d_Wa_init_170 ?_
      refine lv_ishr hx hb d_Wa_init_171 ?_
      refine lv_topi (fun z171_3 ez171_3 => ?_)
      refine lv_iconst (v := 1) hx hb d_Wa_init_172 (by decide) ?_
      refine lv_iand hx hb d_Wa_init_173 ?_
      refine lv_if_eq (tgt := 184) hx hb d_Wa_init_174 (by decide) (fun h174x4 => ?_) (fun h174x4 => ?_)
      · refine lv_iinc (k := 0) (v := (pv (j + 1))) hx hb d_Wa_init_184 hl rfl (pv_1 j hj) (by decide) rfl (fun ls hl => ?_)
        have hl : lv_has ls 4 [(3, .int (pv (j + 1))), (2, .int (nI i)), (0, .ref h0), (1, .ref r1)] := hl
        refine lv_goto (tgt := 151) hx hb d_Wa_init_187 (by decide) ?_
        have hl : lv_has ls 4 [(3, .int (pv (j + 1))), (2, .int (nI i)), (0, .ref h0), (1, .ref r1)] := lv_sub hl [0, 1, 2, 3] rfl
        exact hkj (x) H locs ls ⟨hN2.trans (by rw [ndJ_z (by rw [← ez166_2, ← ez171_3]; exact h174x4)]), hP, hD, hS, hl⟩
      · refine lv_aload_n hx hb d_Wa_init_177 rfl (lv_at hl 2 rfl) ?_
        refine va_get (D := (dC, dI)) (ci := 5) (v := .ref q120) (C := R_Wa) (T := F_Wa) (N := 18) hx hb hts (fun w h => List.mem_cons_of_mem _ (in_Wa w h)) hown hK.1 hP 0 rfl rfl 17 (by decide) (hts _ (List.mem_cons_of_mem _ mw_237)) (fun _ h9 => h9) rfl d_Wa_init_178 ?_
        refine lv_iload_n hx hb d_Wa_init_181 rfl (lv_at hl 1 rfl) ?_
        refine lv_iload_n hx hb d_Wa_init_182 rfl (lv_at hl 0 rfl) ?_
        refine va_iast hx hb hK.1 hP hD hS 15 0 rfl rfl (vp_in_nI hi (by decide)) d_Wa_init_183 (fun H locs hP hD hS => ?_)
        have hP : va_P (dC, dI) classes [(h0, .inr (5, [.ref r1, .int 0, .ref q7, .ref q15, .ref q23, .ref q31, .ref q39, .ref q47, .ref q55, .ref q63, .ref q71, .ref q79, .ref q87, .ref q95, .ref q103, .int 0, .ref q111, .ref q120])), (q7, .inl (cI, 24, .inl (fun _ => 0))), (q15, .inl (cI, 24, .inl (fun _ => 0))), (q23, .inl (cI, 24, .inl (fun _ => 0))), (q31, .inl (cI, 24, .inl (fun _ => 0))), (q39, .inl (cI, 24, .inl (fun _ => 0))), (q47, .inl (cI, 24, .inl (fun _ => 0))), (q55, .inl (cI, 24, .inl (fun _ => 0))), (q63, .inl (cI, 24, .inl (fun _ => 0))), (q71, .inl (cI, 24, .inl (fun _ => 0))), (q79, .inl (cZ, 24, .inl (fun _ => 0))), (q87, .inl (cI, 20, .inl (fun _ => 0))), (q95, .inl (cI, 48, .inl (fun _ => 0))), (q103, .inl (cI, 24, .inl (fun _ => 0))), (q111, .inl (cI, 20, .inl (fun _ => 0))), (q120, .inl (cI, 160, .inl ((upd x ((nI i) : Int32).toNatClampNeg (pv j)))))] H := hP
        have hD : va_D A [(h0, .inr (5, [.ref r1, .int 0, .ref q7, .ref q15, .ref q23, .ref q31, .ref q39, .ref q47, .ref q55, .ref q63, .ref q71, .ref q79, .ref q87, .ref q95, .ref q103, .int 0, .ref q111, .ref q120])), (q7, .inl (cI, 24, .inl (fun _ => 0))), (q15, .inl (cI, 24, .inl (fun _ => 0))), (q23, .inl (cI, 24, .inl (fun _ => 0))), (q31, .inl (cI, 24, .inl (fun _ => 0))), (q39, .inl (cI, 24, .inl (fun _ => 0))), (q47, .inl (cI, 24, .inl (fun _ => 0))), (q55, .inl (cI, 24, .inl (fun _ => 0))), (q63, .inl (cI, 24, .inl (fun _ => 0))), (q71, .inl (cI, 24, .inl (fun _ => 0))), (q79, .inl (cZ, 24, .inl (fun _ => 0))), (q87, .inl (cI, 20, .inl (fun _ => 0))), (q95, .inl (cI, 48, .inl (fun _ => 0))), (q103, .inl (cI, 24, .inl (fun _ => 0))), (q111, .inl (cI, 20, .inl (fun _ => 0))), (q120, .inl (cI, 160, .inl ((upd x ((nI i) : Int32).toNatClampNeg (pv j)))))] := hD
        generalize h183 : (upd x ((nI i) : Int32).toNatClampNeg (pv j)) = f183_5 at hP hD
        refine lv_iinc (k := 0) (v := (pv (j + 1))) hx hb d_Wa_init_184 hl rfl (pv_1 j hj) (by decide) rfl (fun ls hl => ?_)
        have hl : lv_has ls 4 [(3, .int (pv (j + 1))), (2, .int (nI i)), (0, .ref h0), (1, .ref r1)] := hl
        refine lv_goto (tgt := 151) hx hb d_Wa_init_187 (by decide) ?_
        have hl : lv_has ls 4 [(3, .int (pv (j + 1))), (2, .int (nI i)), (0, .ref h0), (1, .ref r1)] := lv_sub hl [0, 1, 2, 3] rfl
        exact hkj (f183_5) H locs ls ⟨h183.symm.trans (by rw [hN2, nIc i hi, upd_upd, ndJ_s (by rw [← ez166_2, ← ez171_3]; exact h174x4)]), hP, hD, hS, hl⟩
    · intro x H locs ls hI
      have hI := hI
      obtain ⟨hN2, hP, hD, hS, hl⟩ := hI
      have hP : va_P (dC, dI) classes [(h0, .inr (5, [.ref r1, .int 0, .ref q7, .ref q15, .ref q23, .ref q31, .ref q39, .ref q47, .ref q55, .ref q63, .ref q71, .ref q79, .ref q87, .ref q95, .ref q103, .int 0, .ref q111, .ref q120])), (q7, .inl (cI, 24, .inl (fun _ => 0))), (q15, .inl (cI, 24, .inl (fun _ => 0))), (q23, .inl (cI, 24, .inl (fun _ => 0))), (q31, .inl (cI, 24, .inl (fun _ => 0))), (q39, .inl (cI, 24, .inl (fun _ => 0))), (q47, .inl (cI, 24, .inl (fun _ => 0))), (q55, .inl (cI, 24, .inl (fun _ => 0))), (q63, .inl (cI, 24, .inl (fun _ => 0))), (q71, .inl (cI, 24, .inl (fun _ => 0))), (q79, .inl (cZ, 24, .inl (fun _ => 0))), (q87, .inl (cI, 20, .inl (fun _ => 0))), (q95, .inl (cI, 48, .inl (fun _ => 0))), (q103, .inl (cI, 24, .inl (fun _ => 0))), (q111, .inl (cI, 20, .inl (fun _ => 0))), (q120, .inl (cI, 160, .inl x))] H := hP
      have hD : va_D A [(h0, .inr (5, [.ref r1, .int 0, .ref q7, .ref q15, .ref q23, .ref q31, .ref q39, .ref q47, .ref q55, .ref q63, .ref q71, .ref q79, .ref q87, .ref q95, .ref q103, .int 0, .ref q111, .ref q120])), (q7, .inl (cI, 24, .inl (fun _ => 0))), (q15, .inl (cI, 24, .inl (fun _ => 0))), (q23, .inl (cI, 24, .inl (fun _ => 0))), (q31, .inl (cI, 24, .inl (fun _ => 0))), (q39, .inl (cI, 24, .inl (fun _ => 0))), (q47, .inl (cI, 24, .inl (fun _ => 0))), (q55, .inl (cI, 24, .inl (fun _ => 0))), (q63, .inl (cI, 24, .inl (fun _ => 0))), (q71, .inl (cI, 24, .inl (fun _ => 0))), (q79, .inl (cZ, 24, .inl (fun _ => 0))), (q87, .inl (cI, 20, .inl (fun _ => 0))), (q95, .inl (cI, 48, .inl (fun _ => 0))), (q103, .inl (cI, 24, .inl (fun _ => 0))), (q111, .inl (cI, 20, .inl (fun _ => 0))), (q120, .inl (cI, 160, .inl x))] := hD
      have hl : lv_has ls 4 [(3, .int (pv 10)), (2, .int (nI i)), (0, .ref h0), (1, .ref r1)] := hl
      refine lv_iload_n hx hb d_Wa_init_151 rfl (lv_at hl 0 rfl) ?_
      refine lv_if_lt (tgt := 190) hx hb d_Wa_init_152 (by decide) (fun _ => ?_) (fun h => absurd (show pv 10 < 0 by decide) h)
      refine lv_iinc (k := 1) (v := (nI (i + 1))) hx hb d_Wa_init_190 hl rfl (by first | rfl | decide | exact nI_1 i | exact pv_1 j hj) (by decide) rfl (fun ls hl => ?_)
      have hl : lv_has ls 4 [(2, .int (nI (i + 1))), (3, .int (pv 10)), (0, .ref h0), (1, .ref r1)] := hl
      refine lv_goto (tgt := 132) hx hb d_Wa_init_193 (by decide) ?_
      have hl : lv_has ls 4 [(2, .int (nI (i + 1))), (0, .ref h0), (1, .ref r1)] := lv_sub hl [0, 2, 3] rfl
      exact hki (x) H locs ls ⟨hN2.trans (ndO_s i), hP, hD, hS, hl⟩
  · intro x H locs ls hI
    have hI := hI
    obtain ⟨hN, hP, hD, hS, hl⟩ := hI
    have hP : va_P (dC, dI) classes [(h0, .inr (5, [.ref r1, .int 0, .ref q7, .ref q15, .ref q23, .ref q31, .ref q39, .ref q47, .ref q55, .ref q63, .ref q71, .ref q79, .ref q87, .ref q95, .ref q103, .int 0, .ref q111, .ref q120])), (q7, .inl (cI, 24, .inl (fun _ => 0))), (q15, .inl (cI, 24, .inl (fun _ => 0))), (q23, .inl (cI, 24, .inl (fun _ => 0))), (q31, .inl (cI, 24, .inl (fun _ => 0))), (q39, .inl (cI, 24, .inl (fun _ => 0))), (q47, .inl (cI, 24, .inl (fun _ => 0))), (q55, .inl (cI, 24, .inl (fun _ => 0))), (q63, .inl (cI, 24, .inl (fun _ => 0))), (q71, .inl (cI, 24, .inl (fun _ => 0))), (q79, .inl (cZ, 24, .inl (fun _ => 0))), (q87, .inl (cI, 20, .inl (fun _ => 0))), (q95, .inl (cI, 48, .inl (fun _ => 0))), (q103, .inl (cI, 24, .inl (fun _ => 0))), (q111, .inl (cI, 20, .inl (fun _ => 0))), (q120, .inl (cI, 160, .inl x))] H := hP
    have hD : va_D A [(h0, .inr (5, [.ref r1, .int 0, .ref q7, .ref q15, .ref q23, .ref q31, .ref q39, .ref q47, .ref q55, .ref q63, .ref q71, .ref q79, .ref q87, .ref q95, .ref q103, .int 0, .ref q111, .ref q120])), (q7, .inl (cI, 24, .inl (fun _ => 0))), (q15, .inl (cI, 24, .inl (fun _ => 0))), (q23, .inl (cI, 24, .inl (fun _ => 0))), (q31, .inl (cI, 24, .inl (fun _ => 0))), (q39, .inl (cI, 24, .inl (fun _ => 0))), (q47, .inl (cI, 24, .inl (fun _ => 0))), (q55, .inl (cI, 24, .inl (fun _ => 0))), (q63, .inl (cI, 24, .inl (fun _ => 0))), (q71, .inl (cI, 24, .inl (fun _ => 0))), (q79, .inl (cZ, 24, .inl (fun _ => 0))), (q87, .inl (cI, 20, .inl (fun _ => 0))), (q95, .inl (cI, 48, .inl (fun _ => 0))), (q103, .inl (cI, 24, .inl (fun _ => 0))), (q111, .inl (cI, 20, .inl (fun _ => 0))), (q120, .inl (cI, 160, .inl x))] := hD
    have hl : lv_has ls 4 [(2, .int (nI 160)), (0, .ref h0), (1, .ref r1)] := hl
    refine lv_iload_n hx hb d_Wa_init_132 rfl (lv_at hl 0 rfl) ?_
    refine lv_aload_n hx hb d_Wa_init_133 rfl (lv_at hl 1 rfl) ?_
    refine va_get (D := (dC, dI)) (ci := 5) (v := .ref q120) (C := R_Wa) (T := F_Wa) (N := 18) hx hb hts (fun w h => List.mem_cons_of_mem _ (in_Wa w h)) hown hK.1 hP 0 rfl rfl 17 (by decide) (hts _ (List.mem_cons_of_mem _ mw_237)) (fun _ h9 => h9) rfl d_Wa_init_134 ?_
    refine va_alen hx hb hK.1 hP 15 0 rfl rfl (v := 160) rfl d_Wa_init_137 ?_
    refine lv_icmp_ge (tgt := 196) hx hb d_Wa_init_138 (by decide) (fun _ => ?_) (fun h => absurd (show (160 : Int32) ≤ nI 160 from nI_le (Nat.le_refl _) (by decide)) h)
    exact W.vret hx hb hr (fun t ht hW => ⟨⟨(), rfl, trivial, ⟨q7, q15, q23, q31, q39, q47, q55, q63, q71, q79, q87, q95, q103, q111, q120, x, hN, by rw [ht]; exact hP, hD⟩⟩, hS.F ht⟩) hS.2.2 d_Wa_init_196
abbrev t_Rd_init_104 : List UInt8 := 177 :: []
abbrev t_Rd_init_101 : List UInt8 := 167 :: 255 :: 192 :: t_Rd_init_104
abbrev t_Rd_init_98 : List UInt8 := 132 :: 4 :: 1 :: t_Rd_init_101
abbrev t_Rd_init_97 : List UInt8 := 65 :: t_Rd_init_98
abbrev t_Rd_init_96 : List UInt8 := 97 :: t_Rd_init_97
abbrev t_Rd_init_95 : List UInt8 := 133 :: t_Rd_init_96
abbrev t_Rd_init_92 : List UInt8 := 184 :: 0 :: 36 :: t_Rd_init_95
abbrev t_Rd_init_89 : List UInt8 := 182 :: 0 :: 30 :: t_Rd_init_92
abbrev t_Rd_init_87 : List UInt8 := 21 :: 4 :: t_Rd_init_89
abbrev t_Rd_init_85 : List UInt8 := 18 :: 22 :: t_Rd_init_87
abbrev t_Rd_init_84 : List UInt8 := 105 :: t_Rd_init_85
abbrev t_Rd_init_81 : List UInt8 := 20 :: 0 :: 34 :: t_Rd_init_84
abbrev t_Rd_init_80 : List UInt8 := 32 :: t_Rd_init_81
abbrev t_Rd_init_77 : List UInt8 := 167 :: 0 :: 21 :: t_Rd_init_80
abbrev t_Rd_init_76 : List UInt8 := 65 :: t_Rd_init_77
abbrev t_Rd_init_75 : List UInt8 := 9 :: t_Rd_init_76
abbrev t_Rd_init_72 : List UInt8 := 132 :: 1 :: 1 :: t_Rd_init_75
abbrev t_Rd_init_71 : List UInt8 := 80 :: t_Rd_init_72
abbrev t_Rd_init_70 : List UInt8 := 32 :: t_Rd_init_71
abbrev t_Rd_init_69 : List UInt8 := 27 :: t_Rd_init_70
abbrev t_Rd_init_66 : List UInt8 := 180 :: 0 :: 18 :: t_Rd_init_69
abbrev t_Rd_init_65 : List UInt8 := 42 :: t_Rd_init_66
abbrev t_Rd_init_62 : List UInt8 := 160 :: 0 :: 18 :: t_Rd_init_65
abbrev t_Rd_init_60 : List UInt8 := 16 :: 32 :: t_Rd_init_62
abbrev t_Rd_init_57 : List UInt8 := 182 :: 0 :: 30 :: t_Rd_init_60
abbrev t_Rd_init_55 : List UInt8 := 21 :: 4 :: t_Rd_init_57
abbrev t_Rd_init_53 : List UInt8 := 18 :: 22 :: t_Rd_init_55
abbrev t_Rd_init_50 : List UInt8 := 162 :: 0 :: 54 :: t_Rd_init_53
abbrev t_Rd_init_48 : List UInt8 := 16 :: 26 :: t_Rd_init_50
abbrev t_Rd_init_47 : List UInt8 := 27 :: t_Rd_init_48
abbrev t_Rd_init_44 : List UInt8 := 162 :: 0 :: 60 :: t_Rd_init_47
abbrev t_Rd_init_41 : List UInt8 := 182 :: 0 :: 24 :: t_Rd_init_44
abbrev t_Rd_init_39 : List UInt8 := 18 :: 22 :: t_Rd_init_41
abbrev t_Rd_init_37 : List UInt8 := 21 :: 4 :: t_Rd_init_39
abbrev t_Rd_init_35 : List UInt8 := 54 :: 4 :: t_Rd_init_37
abbrev t_Rd_init_34 : List UInt8 := 3 :: t_Rd_init_35
abbrev t_Rd_init_33 : List UInt8 := 65 :: t_Rd_init_34
abbrev t_Rd_init_32 : List UInt8 := 9 :: t_Rd_init_33
abbrev t_Rd_init_31 : List UInt8 := 60 :: t_Rd_init_32
abbrev t_Rd_init_30 : List UInt8 := 3 :: t_Rd_init_31
abbrev t_Rd_init_27 : List UInt8 := 181 :: 0 :: 18 :: t_Rd_init_30
abbrev t_Rd_init_25 : List UInt8 := 188 :: 11 :: t_Rd_init_27
abbrev t_Rd_init_23 : List UInt8 := 16 :: 26 :: t_Rd_init_25
abbrev t_Rd_init_22 : List UInt8 := 42 :: t_Rd_init_23
abbrev t_Rd_init_19 : List UInt8 := 181 :: 0 :: 15 :: t_Rd_init_22
abbrev t_Rd_init_17 : List UInt8 := 188 :: 10 :: t_Rd_init_19
abbrev t_Rd_init_14 : List UInt8 := 17 :: 1 :: 45 :: t_Rd_init_17
abbrev t_Rd_init_13 : List UInt8 := 42 :: t_Rd_init_14
abbrev t_Rd_init_10 : List UInt8 := 181 :: 0 :: 9 :: t_Rd_init_13
abbrev t_Rd_init_8 : List UInt8 := 188 :: 10 :: t_Rd_init_10
abbrev t_Rd_init_5 : List UInt8 := 17 :: 1 :: 45 :: t_Rd_init_8
abbrev t_Rd_init_4 : List UInt8 := 42 :: t_Rd_init_5
abbrev t_Rd_init_1 : List UInt8 := 183 :: 0 :: 3 :: t_Rd_init_4
abbrev t_Rd_init_0 : List UInt8 := 42 :: t_Rd_init_1
theorem a_Rd_init_0 : dk_at b_Rd_init 0 t_Rd_init_0 := dk_start (by decide +kernel)
theorem a_Rd_init_1 : dk_at b_Rd_init 1 t_Rd_init_1 := dk_go 1 a_Rd_init_0 rfl
theorem a_Rd_init_4 : dk_at b_Rd_init 4 t_Rd_init_4 := dk_go 3 a_Rd_init_1 rfl
theorem a_Rd_init_5 : dk_at b_Rd_init 5 t_Rd_init_5 := dk_go 1 a_Rd_init_4 rfl
theorem a_Rd_init_8 : dk_at b_Rd_init 8 t_Rd_init_8 := dk_go 3 a_Rd_init_5 rfl
theorem a_Rd_init_10 : dk_at b_Rd_init 10 t_Rd_init_10 := dk_go 2 a_Rd_init_8 rfl
theorem a_Rd_init_13 : dk_at b_Rd_init 13 t_Rd_init_13 := dk_go 3 a_Rd_init_10 rfl
theorem a_Rd_init_14 : dk_at b_Rd_init 14 t_Rd_init_14 := dk_go 1 a_Rd_init_13 rfl
theorem a_Rd_init_17 : dk_at b_Rd_init 17 t_Rd_init_17 := dk_go 3 a_Rd_init_14 rfl
theorem a_Rd_init_19 : dk_at b_Rd_init 19 t_Rd_init_19 := dk_go 2 a_Rd_init_17 rfl
theorem a_Rd_init_22 : dk_at b_Rd_init 22 t_Rd_init_22 := dk_go 3 a_Rd_init_19 rfl
theorem a_Rd_init_23 : dk_at b_Rd_init 23 t_Rd_init_23 := dk_go 1 a_Rd_init_22 rfl
theorem a_Rd_init_25 : dk_at b_Rd_init 25 t_Rd_init_25 := dk_go 2 a_Rd_init_23 rfl
theorem a_Rd_init_27 : dk_at b_Rd_init 27 t_Rd_init_27 := dk_go 2 a_Rd_init_25 rfl
theorem a_Rd_init_30 : dk_at b_Rd_init 30 t_Rd_init_30 := dk_go 3 a_Rd_init_27 rfl
theorem a_Rd_init_31 : dk_at b_Rd_init 31 t_Rd_init_31 := dk_go 1 a_Rd_init_30 rfl
theorem a_Rd_init_32 : dk_at b_Rd_init 32 t_Rd_init_32 := dk_go 1 a_Rd_init_31 rfl
theorem a_Rd_init_33 : dk_at b_Rd_init 33 t_Rd_init_33 := dk_go 1 a_Rd_init_32 rfl
theorem a_Rd_init_34 : dk_at b_Rd_init 34 t_Rd_init_34 := dk_go 1 a_Rd_init_33 rfl
theorem a_Rd_init_35 : dk_at b_Rd_init 35 t_Rd_init_35 := dk_go 1 a_Rd_init_34 rfl
theorem a_Rd_init_37 : dk_at b_Rd_init 37 t_Rd_init_37 := dk_go 2 a_Rd_init_35 rfl
theorem a_Rd_init_39 : dk_at b_Rd_init 39 t_Rd_init_39 := dk_go 2 a_Rd_init_37 rfl
theorem a_Rd_init_41 : dk_at b_Rd_init 41 t_Rd_init_41 := dk_go 2 a_Rd_init_39 rfl
theorem a_Rd_init_44 : dk_at b_Rd_init 44 t_Rd_init_44 := dk_go 3 a_Rd_init_41 rfl
theorem a_Rd_init_47 : dk_at b_Rd_init 47 t_Rd_init_47 := dk_go 3 a_Rd_init_44 rfl
theorem a_Rd_init_48 : dk_at b_Rd_init 48 t_Rd_init_48 := dk_go 1 a_Rd_init_47 rfl
theorem a_Rd_init_50 : dk_at b_Rd_init 50 t_Rd_init_50 := dk_go 2 a_Rd_init_48 rfl
theorem a_Rd_init_53 : dk_at b_Rd_init 53 t_Rd_init_53 := dk_go 3 a_Rd_init_50 rfl
theorem a_Rd_init_55 : dk_at b_Rd_init 55 t_Rd_init_55 := dk_go 2 a_Rd_init_53 rfl
theorem a_Rd_init_57 : dk_at b_Rd_init 57 t_Rd_init_57 := dk_go 2 a_Rd_init_55 rfl
theorem a_Rd_init_60 : dk_at b_Rd_init 60 t_Rd_init_60 := dk_go 3 a_Rd_init_57 rfl
theorem a_Rd_init_62 : dk_at b_Rd_init 62 t_Rd_init_62 := dk_go 2 a_Rd_init_60 rfl
theorem a_Rd_init_65 : dk_at b_Rd_init 65 t_Rd_init_65 := dk_go 3 a_Rd_init_62 rfl
theorem a_Rd_init_66 : dk_at b_Rd_init 66 t_Rd_init_66 := dk_go 1 a_Rd_init_65 rfl
theorem a_Rd_init_69 : dk_at b_Rd_init 69 t_Rd_init_69 := dk_go 3 a_Rd_init_66 rfl
theorem a_Rd_init_70 : dk_at b_Rd_init 70 t_Rd_init_70 := dk_go 1 a_Rd_init_69 rfl
theorem a_Rd_init_71 : dk_at b_Rd_init 71 t_Rd_init_71 := dk_go 1 a_Rd_init_70 rfl
theorem a_Rd_init_72 : dk_at b_Rd_init 72 t_Rd_init_72 := dk_go 1 a_Rd_init_71 rfl
theorem a_Rd_init_75 : dk_at b_Rd_init 75 t_Rd_init_75 := dk_go 3 a_Rd_init_72 rfl
theorem a_Rd_init_76 : dk_at b_Rd_init 76 t_Rd_init_76 := dk_go 1 a_Rd_init_75 rfl
theorem a_Rd_init_77 : dk_at b_Rd_init 77 t_Rd_init_77 := dk_go 1 a_Rd_init_76 rfl
theorem a_Rd_init_80 : dk_at b_Rd_init 80 t_Rd_init_80 := dk_go 3 a_Rd_init_77 rfl
theorem a_Rd_init_81 : dk_at b_Rd_init 81 t_Rd_init_81 := dk_go 1 a_Rd_init_80 rfl
theorem a_Rd_init_84 : dk_at b_Rd_init 84 t_Rd_init_84 := dk_go 3 a_Rd_init_81 rfl
theorem a_Rd_init_85 : dk_at b_Rd_init 85 t_Rd_init_85 := dk_go 1 a_Rd_init_84 rfl
theorem a_Rd_init_87 : dk_at b_Rd_init 87 t_Rd_init_87 := dk_go 2 a_Rd_init_85 rfl
theorem a_Rd_init_89 : dk_at b_Rd_init 89 t_Rd_init_89 := dk_go 2 a_Rd_init_87 rfl
theorem a_Rd_init_92 : dk_at b_Rd_init 92 t_Rd_init_92 := dk_go 3 a_Rd_init_89 rfl
theorem a_Rd_init_95 : dk_at b_Rd_init 95 t_Rd_init_95 := dk_go 3 a_Rd_init_92 rfl
theorem a_Rd_init_96 : dk_at b_Rd_init 96 t_Rd_init_96 := dk_go 1 a_Rd_init_95 rfl
theorem a_Rd_init_97 : dk_at b_Rd_init 97 t_Rd_init_97 := dk_go 1 a_Rd_init_96 rfl
theorem a_Rd_init_98 : dk_at b_Rd_init 98 t_Rd_init_98 := dk_go 1 a_Rd_init_97 rfl
theorem a_Rd_init_101 : dk_at b_Rd_init 101 t_Rd_init_101 := dk_go 3 a_Rd_init_98 rfl
theorem a_Rd_init_104 : dk_at b_Rd_init 104 t_Rd_init_104 := dk_go 3 a_Rd_init_101 rfl
theorem d_Rd_init_0 : decode b_Rd_init 0 = .ok (.aload_n 0, 1) := dk_0 a_Rd_init_0 (dko_42 _)
theorem d_Rd_init_1 : decode b_Rd_init 1 = .ok (.invokespecial 3, 3) := dk_U2 a_Rd_init_1 (dko_183 _) rfl
theorem d_Rd_init_4 : decode b_Rd_init 4 = .ok (.aload_n 0, 1) := dk_0 a_Rd_init_4 (dko_42 _)
theorem d_Rd_init_5 : decode b_Rd_init 5 = .ok (.sipush 301, 3) := dk_S2 a_Rd_init_5 (dko_17 _) (by decide +kernel)
theorem d_Rd_init_8 : decode b_Rd_init 8 = .ok (.newarray .int, 2) := dk_N a_Rd_init_8 (dko_188 _) rfl
theorem d_Rd_init_10 : decode b_Rd_init 10 = .ok (.putfield 9, 3) := dk_U2 a_Rd_init_10 (dko_181 _) rfl
theorem d_Rd_init_13 : decode b_Rd_init 13 = .ok (.aload_n 0, 1) := dk_0 a_Rd_init_13 (dko_42 _)
theorem d_Rd_init_14 : decode b_Rd_init 14 = .ok (.sipush 301, 3) := dk_S2 a_Rd_init_14 (dko_17 _) (by decide +kernel)
theorem d_Rd_init_17 : decode b_Rd_init 17 = .ok (.newarray .int, 2) := dk_N a_Rd_init_17 (dko_188 _) rfl
theorem d_Rd_init_19 : decode b_Rd_init 19 = .ok (.putfield 15, 3) := dk_U2 a_Rd_init_19 (dko_181 _) rfl
theorem d_Rd_init_22 : decode b_Rd_init 22 = .ok (.aload_n 0, 1) := dk_0 a_Rd_init_22 (dko_42 _)
theorem d_Rd_init_23 : decode b_Rd_init 23 = .ok (.bipush 26, 2) := dk_S1 a_Rd_init_23 (dko_16 _) (by decide +kernel)
theorem d_Rd_init_25 : decode b_Rd_init 25 = .ok (.newarray .long, 2) := dk_N a_Rd_init_25 (dko_188 _) rfl
theorem d_Rd_init_27 : decode b_Rd_init 27 = .ok (.putfield 18, 3) := dk_U2 a_Rd_init_27 (dko_181 _) rfl
theorem d_Rd_init_30 : decode b_Rd_init 30 = .ok (.iconst 0, 1) := dk_0 a_Rd_init_30 (dko_3 _)
theorem d_Rd_init_31 : decode b_Rd_init 31 = .ok (.istore_n 1, 1) := dk_0 a_Rd_init_31 (dko_60 _)
theorem d_Rd_init_32 : decode b_Rd_init 32 = .ok (.lconst 0, 1) := dk_0 a_Rd_init_32 (dko_9 _)
theorem d_Rd_init_33 : decode b_Rd_init 33 = .ok (.lstore_n 2, 1) := dk_0 a_Rd_init_33 (dko_65 _)
theorem d_Rd_init_34 : decode b_Rd_init 34 = .ok (.iconst 0, 1) := dk_0 a_Rd_init_34 (dko_3 _)
theorem d_Rd_init_35 : decode b_Rd_init 35 = .ok (.istore 4, 2) := dk_U1 a_Rd_init_35 (dko_54 _) rfl
theorem d_Rd_init_37 : decode b_Rd_init 37 = .ok (.iload 4, 2) := dk_U1 a_Rd_init_37 (dko_21 _) rfl
theorem d_Rd_init_39 : decode b_Rd_init 39 = .ok (.ldc 22, 2) := dk_U1 a_Rd_init_39 (dko_18 _) rfl
theorem d_Rd_init_41 : decode b_Rd_init 41 = .ok (.invokevirtual 24, 3) := dk_U2 a_Rd_init_41 (dko_182 _) rfl
theorem d_Rd_init_44 : decode b_Rd_init 44 = .ok (.if_icmp .ge 60, 3) := dk_S2 a_Rd_init_44 (dko_162 _) (by decide +kernel)
theorem d_Rd_init_47 : decode b_Rd_init 47 = .ok (.iload_n 1, 1) := dk_0 a_Rd_init_47 (dko_27 _)
theorem d_Rd_init_48 : decode b_Rd_init 48 = .ok (.bipush 26, 2) := dk_S1 a_Rd_init_48 (dko_16 _) (by decide +kernel)
theorem d_Rd_init_50 : decode b_Rd_init 50 = .ok (.if_icmp .ge 54, 3) := dk_S2 a_Rd_init_50 (dko_162 _) (by decide +kernel)
theorem d_Rd_init_53 : decode b_Rd_init 53 = .ok (.ldc 22, 2) := dk_U1 a_Rd_init_53 (dko_18 _) rfl
theorem d_Rd_init_55 : decode b_Rd_init 55 = .ok (.iload 4, 2) := dk_U1 a_Rd_init_55 (dko_21 _) rfl
theorem d_Rd_init_57 : decode b_Rd_init 57 = .ok (.invokevirtual 30, 3) := dk_U2 a_Rd_init_57 (dko_182 _) rfl
theorem d_Rd_init_60 : decode b_Rd_init 60 = .ok (.bipush 32, 2) := dk_S1 a_Rd_init_60 (dko_16 _) (by decide +kernel)
theorem d_Rd_init_62 : decode b_Rd_init 62 = .ok (.if_icmp .ne 18, 3) := dk_S2 a_Rd_init_62 (dko_160 _) (by decide +kernel)
theorem d_Rd_init_65 : decode b_Rd_init 65 = .ok (.aload_n 0, 1) := dk_0 a_Rd_init_65 (dko_42 _)
theorem d_Rd_init_66 : decode b_Rd_init 66 = .ok (.getfield 18, 3) := dk_U2 a_Rd_init_66 (dko_180 _) rfl
theorem d_Rd_init_69 : decode b_Rd_init 69 = .ok (.iload_n 1, 1) := dk_0 a_Rd_init_69 (dko_27 _)
theorem d_Rd_init_70 : decode b_Rd_init 70 = .ok (.lload_n 2, 1) := dk_0 a_Rd_init_70 (dko_32 _)
theorem d_Rd_init_71 : decode b_Rd_init 71 = .ok (.lastore, 1) := dk_0 a_Rd_init_71 (dko_80 _)
theorem d_Rd_init_72 : decode b_Rd_init 72 = .ok (.iinc 1 1, 3) := dk_US a_Rd_init_72 (dko_132 _) (by decide +kernel)
theorem d_Rd_init_75 : decode b_Rd_init 75 = .ok (.lconst 0, 1) := dk_0 a_Rd_init_75 (dko_9 _)
theorem d_Rd_init_76 : decode b_Rd_init 76 = .ok (.lstore_n 2, 1) := dk_0 a_Rd_init_76 (dko_65 _)
theorem d_Rd_init_77 : decode b_Rd_init 77 = .ok (.goto 21, 3) := dk_S2 a_Rd_init_77 (dko_167 _) (by decide +kernel)
theorem d_Rd_init_80 : decode b_Rd_init 80 = .ok (.lload_n 2, 1) := dk_0 a_Rd_init_80 (dko_32 _)
theorem d_Rd_init_81 : decode b_Rd_init 81 = .ok (.ldc2_w 34, 3) := dk_U2 a_Rd_init_81 (dko_20 _) rfl
theorem d_Rd_init_84 : decode b_Rd_init 84 = .ok (.lmul, 1) := dk_0 a_Rd_init_84 (dko_105 _)
theorem d_Rd_init_85 : decode b_Rd_init 85 = .ok (.ldc 22, 2) := dk_U1 a_Rd_init_85 (dko_18 _) rfl
theorem d_Rd_init_87 : decode b_Rd_init 87 = .ok (.iload 4, 2) := dk_U1 a_Rd_init_87 (dko_21 _) rfl
theorem d_Rd_init_89 : decode b_Rd_init 89 = .ok (.invokevirtual 30, 3) := dk_U2 a_Rd_init_89 (dko_182 _) rfl
theorem d_Rd_init_92 : decode b_Rd_init 92 = .ok (.invokestatic 36, 3) := dk_U2 a_Rd_init_92 (dko_184 _) rfl
theorem d_Rd_init_95 : decode b_Rd_init 95 = .ok (.i2l, 1) := dk_0 a_Rd_init_95 (dko_133 _)
theorem d_Rd_init_96 : decode b_Rd_init 96 = .ok (.ladd, 1) := dk_0 a_Rd_init_96 (dko_97 _)
theorem d_Rd_init_97 : decode b_Rd_init 97 = .ok (.lstore_n 2, 1) := dk_0 a_Rd_init_97 (dko_65 _)
theorem d_Rd_init_98 : decode b_Rd_init 98 = .ok (.iinc 4 1, 3) := dk_US a_Rd_init_98 (dko_132 _) (by decide +kernel)
theorem d_Rd_init_101 : decode b_Rd_init 101 = .ok (.goto (-64), 3) := dk_S2 a_Rd_init_101 (dko_167 _) (by decide +kernel)
theorem d_Rd_init_104 : decode b_Rd_init 104 = .ok (.return_, 1) := dk_0 a_Rd_init_104 (dko_177 _)
/-- the words' numbers, as the loop makes them: after i letters -/
def kwS : Nat → (Nat → Int64) × Int32 × Int64
  | 0 => ((fun _ => 0), 0, 0)
  | i + 1 => if ((kwb (nI i)) &&& 255) = 32 then (vp_updL (kwS i).1 ((kwS i).2.1).toNatClampNeg (kwS i).2.2, (kwS i).2.1 + 1, 0) else ((kwS i).1, (kwS i).2.1, (kwS i).2.2 * 37 + (fn_Rd_digitOf ((kwb (nI i)) &&& 255)).toInt64)
def kwF : Nat → Int64 := (kwS 114).1
theorem kwS_u (i : Nat) : kwS (i + 1) = if ((kwb (nI i)) &&& 255) = 32 then (vp_updL (kwS i).1 ((kwS i).2.1).toNatClampNeg (kwS i).2.2, (kwS i).2.1 + 1, 0) else ((kwS i).1, (kwS i).2.1, (kwS i).2.2 * 37 + (fn_Rd_digitOf ((kwb (nI i)) &&& 255)).toInt64) := rfl
theorem kw_26 : ∀ i, i < 114 → ¬ (26 : Int32) ≤ (kwS i).2.1 := by decide +kernel
theorem kw_n {i : Nat} {a : Nat → Int64} {b : Int32} {c : Int64} (h : (a, b, c) = kwS i) (hi : i < 114) : ¬ (26 : Int32) ≤ b := by
  have e : b = (kwS i).2.1 := congrArg (fun x : (Nat → Int64) × Int32 × Int64 => x.2.1) h
  rw [e]
  exact kw_26 i hi
theorem kw_a {i : Nat} {a g : Nat → Int64} {b : Int32} {c : Int64} (h : (a, b, c) = kwS i) (q : ((kwb (nI i)) &&& 255) = 32) (e : vp_updL a b.toNatClampNeg c = g) : (g, b + 1, (0 : Int64)) = kwS (i + 1) := by
  rw [kwS_u, if_pos q, ← h, ← e]
theorem kw_b {i : Nat} {a : Nat → Int64} {b : Int32} {c z y : Int64} (h : (a, b, c) = kwS i) (q : ¬ ((kwb (nI i)) &&& 255) = 32) (ez : z = c * 37) (ey : y = z + (fn_Rd_digitOf ((kwb (nI i)) &&& 255)).toInt64) : (a, b, y) = kwS (i + 1) := by
  rw [kwS_u, if_neg q, ← h, ey, ez]
set_option maxHeartbeats 4000000 in
set_option maxRecDepth 100000 in
theorem c_Rd_init (l : Launch) (dC : Nat → ClassId) (dI : Nat → Nat → Nat) (cI cB cZ cJ : ClassId) (tPA : Nat) (adK adV : Nat → Nat) (h0 : Nat) (sz : Nat) : Met l y_Rd_init w_Rd_init ({ frames := 4, cells := 3, slots := 628, locals := 85 }) (va_Pc [.ref h0] (PWG dC dI cI cB cZ cJ tPA adK adV [(h0, .inr (9, [.null, .null, .int 0, .int 0, .int 0, .long 0, .long 0, .int 0, .int 0, .int 0, .null, .null, .null]))] [(h0, .inr (9, [.null, .null, .int 0, .int 0, .int 0, .long 0, .long 0, .int 0, .int 0, .int 0, .null, .null, .null]))] sz)) (va_Qv (fun _ : Unit => True) (fun (_ : Unit) (t : State) => ∃ q8 q17 q25 : Nat, ∃ g_q25 : Nat → Int64, g_q25 = kwF ∧ va_P (dC, dI) classes [(h0, .inr (9, [.null, .null, .int 0, .int 0, .int 0, .long 0, .long 0, .int 0, .int 0, .int 0, .ref q8, .ref q17, .ref q25])), (q8, .inl (cI, 301, .inl (fun _ => 0))), (q17, .inl (cI, 301, .inl (fun _ => 0))), (q25, .inl (cJ, 26, .inr (.inl g_q25)))] t.heap ∧ va_D (va_A [(h0, .inr (9, [.null, .null, .int 0, .int 0, .int 0, .long 0, .long 0, .int 0, .int 0, .int 0, .null, .null, .null]))] sz) [(h0, .inr (9, [.null, .null, .int 0, .int 0, .int 0, .long 0, .long 0, .int 0, .int 0, .int 0, .ref q8, .ref q17, .ref q25])), (q8, .inl (cI, 301, .inl (fun _ => 0))), (q17, .inl (cI, 301, .inl (fun _ => 0))), (q25, .inl (cJ, 26, .inr (.inl g_q25)))]) (va_A [(h0, .inr (9, [.null, .null, .int 0, .int 0, .int 0, .long 0, .long 0, .int 0, .int 0, .int 0, .null, .null, .null]))] sz)) 3 628 (va_A [(h0, .inr (9, [.null, .null, .int 0, .int 0, .int 0, .long 0, .long 0, .int 0, .int 0, .int 0, .null, .null, .null]))] sz) := by
  refine Met.ofW (cc := b_Rd_init) (maxL := 5) (ret := none) (by decide) rfl ?_
  intro p e s m args below meth c s₁ B hml hv
  obtain ⟨rfl, ⟨hsz, hP, hK, hD⟩, hG⟩ := hv
  have hx := B.exec
  have hb := B.bytes
  have hr := B.returns
  have hts := atoms_spec (ws := w_Rd_init) B.pre
  have hown : s.vm.findClass R_Rd = some m.cls := findClass_of_methodNamed B.named
  have hlocks := B.notSynchronized
  have hin : meth.name = "<init>" := (name_of_methodNamed B.named B.method).1
  subst hsz
  have hD := hD.self (sz := s.heap.size)
  generalize hAe : va_A [(h0, .inr (9, [.null, .null, .int 0, .int 0, .int 0, .long 0, .long 0, .int 0, .int 0, .int 0, .null, .null, .null]))] s.heap.size = A at hD hG ⊢
  have hA : ∀ q : Nat, s.heap.size ≤ q → A q := fun q h => by rw [← hAe]; exact Or.inr h
  have hS : va_S A s.heap s.heap [] := va_S.rf
  have hP : va_P (dC, dI) classes [(h0, .inr (9, [.null, .null, .int 0, .int 0, .int 0, .long 0, .long 0, .int 0, .int 0, .int 0, .null, .null, .null]))] s.heap := hP
  have hl := lv_entry ([.ref h0]) (n := 5) (Nat.le_of_ble_eq_true rfl)
  rw [lg_entry_eq]
  generalize (lg_sl ([.ref h0]) ++ List.replicate (5 - (lg_sl ([.ref h0])).length) Slot.unset).toArray = ls at hl ⊢
  have hl : lv_has ls 5 [(0, .ref h0)] := hl
  refine lv_aload_n hx hb d_Rd_init_0 rfl (lv_at hl 0 rfl) ?_
  refine W.objInit hx hb hown (hts _ (List.mem_cons_of_mem _ mw_582)) (hts _ (List.mem_cons_of_mem _ mw_30)) (hts _ (List.mem_cons_of_mem _ mw_31)) rfl (by rw [hml]; exact hl.1) rfl d_Rd_init_1 (Nat.le_of_ble_eq_true rfl) (Nat.le_of_ble_eq_true rfl) ?_
  refine W.eq (g2 := F0 m 4 ls []) rfl ?_
  refine lv_aload_n hx hb d_Rd_init_4 rfl (lv_at hl 0 rfl) ?_
  refine lv_sipush (v := 301) hx hb d_Rd_init_5 (by decide) ?_
  refine ka_newa (atype := .int) (ty := .int) (N' := 301) (a0 := (301, .inl (fun _ => 0))) hx hb (hts _ (List.mem_cons_of_mem _ mw_53)) rfl hK.1 hP hD hS hA 0 rfl (fun _ => rfl) (by decide) (by decide) (by decide) (Nat.le_of_ble_eq_true rfl) (Nat.le_of_ble_eq_true rfl) d_Rd_init_8 (fun q8 H hP hD hS => ?_)
  refine W.widen (k := 1) (n := 301) (Nat.le_refl _) (Nat.le_refl _) ?_
  refine va_putF (D := (dC, dI)) (ci := 9) (v := .ref q8) (ty := (.array .int)) (C := R_Rd) (T := F_Rd) (N := 13) hx hb hts (fun w h => List.mem_cons_of_mem _ (in_Rd w h)) t_Rd t_Rd_ok n_Rd hown hK.1 hP hD hS 0 rfl rfl 10 (by decide) (hts _ (List.mem_cons_of_mem _ mw_646)) (fun _ h9 => h9) rfl hin rfl (by decide +kernel) rfl rfl (Nat.le_of_ble_eq_true rfl) d_Rd_init_10 (fun H locs hP hD hS => ?_)
  have hP : va_P (dC, dI) classes [(h0, .inr (9, [.null, .null, .int 0, .int 0, .int 0, .long 0, .long 0, .int 0, .int 0, .int 0, .ref q8, .null, .null])), (q8, .inl (cI, 301, .inl (fun _ => 0)))] H := hP
  have hD : va_D A [(h0, .inr (9, [.null, .null, .int 0, .int 0, .int 0, .long 0, .long 0, .int 0, .int 0, .int 0, .ref q8, .null, .null])), (q8, .inl (cI, 301, .inl (fun _ => 0)))] := hD
  refine lv_aload_n hx hb d_Rd_init_13 rfl (lv_at hl 0 rfl) ?_
  refine lv_sipush (v := 301) hx hb d_Rd_init_14 (by decide) ?_
  refine ka_newa (atype := .int) (ty := .int) (N' := 301) (a0 := (301, .inl (fun _ => 0))) hx hb (hts _ (List.mem_cons_of_mem _ mw_53)) rfl hK.1 hP hD hS hA 0 rfl (fun _ => rfl) (by decide) (by decide) (by decide) (Nat.le_of_ble_eq_true rfl) (Nat.le_of_ble_eq_true rfl) d_Rd_init_17 (fun q17 H hP hD hS => ?_)
  refine W.widen (k := 2) (n := 602) (Nat.le_refl _) (Nat.le_refl _) ?_
  refine va_putF (D := (dC, dI)) (ci := 9) (v := .ref q17) (ty := (.array .int)) (C := R_Rd) (T := F_Rd) (N := 13) hx hb hts (fun w h => List.mem_cons_of_mem _ (in_Rd w h)) t_Rd t_Rd_ok n_Rd hown hK.1 hP hD hS 0 rfl rfl 11 (by decide) (hts _ (List.mem_cons_of_mem _ mw_647)) (fun _ h9 => h9) rfl hin rfl (by decide +kernel) rfl rfl (Nat.le_of_ble_eq_true rfl) d_Rd_init_19 (fun H locs hP hD hS => ?_)
  have hP : va_P (dC, dI) classes [(h0, .inr (9, [.null, .null, .int 0, .int 0, .int 0, .long 0, .long 0, .int 0, .int 0, .int 0, .ref q8, .ref q17, .null])), (q8, .inl (cI, 301, .inl (fun _ => 0))), (q17, .inl (cI, 301, .inl (fun _ => 0)))] H := hP
  have hD : va_D A [(h0, .inr (9, [.null, .null, .int 0, .int 0, .int 0, .long 0, .long 0, .int 0, .int 0, .int 0, .ref q8, .ref q17, .null])), (q8, .inl (cI, 301, .inl (fun _ => 0))), (q17, .inl (cI, 301, .inl (fun _ => 0)))] := hD
  refine lv_aload_n hx hb d_Rd_init_22 rfl (lv_at hl 0 rfl) ?_
  refine lv_bipush (v := 26) hx hb d_Rd_init_23 (by decide) ?_
  refine ka_newa (atype := .long) (ty := .long) (N' := 26) (a0 := (26, .inr (.inl (fun _ => 0)))) hx hb (hts _ (List.mem_cons_of_mem _ mw_208)) rfl hK.1 hP hD hS hA 3 rfl (fun _ => rfl) (by decide) (by decide) (by decide) (Nat.le_of_ble_eq_true rfl) (Nat.le_of_ble_eq_true rfl) d_Rd_init_25 (fun q25 H hP hD hS => ?_)
  refine W.widen (k := 3) (n := 628) (Nat.le_refl _) (Nat.le_refl _) ?_
  refine va_putF (D := (dC, dI)) (ci := 9) (v := .ref q25) (ty := (.array .long)) (C := R_Rd) (T := F_Rd) (N := 13) hx hb hts (fun w h => List.mem_cons_of_mem _ (in_Rd w h)) t_Rd t_Rd_ok n_Rd hown hK.1 hP hD hS 0 rfl rfl 12 (by decide) (hts _ (List.mem_cons_of_mem _ mw_648)) (fun _ h9 => h9) rfl hin rfl (by decide +kernel) rfl rfl (Nat.le_of_ble_eq_true rfl) d_Rd_init_27 (fun H locs hP hD hS => ?_)
  have hP : va_P (dC, dI) classes [(h0, .inr (9, [.null, .null, .int 0, .int 0, .int 0, .long 0, .long 0, .int 0, .int 0, .int 0, .ref q8, .ref q17, .ref q25])), (q8, .inl (cI, 301, .inl (fun _ => 0))), (q17, .inl (cI, 301, .inl (fun _ => 0))), (q25, .inl (cJ, 26, .inr (.inl (fun _ => 0))))] H := hP
  have hD : va_D A [(h0, .inr (9, [.null, .null, .int 0, .int 0, .int 0, .long 0, .long 0, .int 0, .int 0, .int 0, .ref q8, .ref q17, .ref q25])), (q8, .inl (cI, 301, .inl (fun _ => 0))), (q17, .inl (cI, 301, .inl (fun _ => 0))), (q25, .inl (cJ, 26, .inr (.inl (fun _ => 0))))] := hD
  refine lv_iconst (v := 0) hx hb d_Rd_init_30 (by decide) ?_
  refine lv_istore_n hx hb d_Rd_init_31 rfl hl (by decide) rfl (fun ls hl => ?_)
  have hl : lv_has ls 5 [(1, .int 0), (0, .ref h0)] := hl
  refine lv_lconst (v := 0) hx hb d_Rd_init_32 (by decide) ?_
  refine lv_lstore_n hx hb d_Rd_init_33 rfl hl (by decide) rfl (fun ls hl => ?_)
  have hl : lv_has ls 5 [(2, .long 0), (1, .int 0), (0, .ref h0)] := hl
  refine lv_iconst (v := 0) hx hb d_Rd_init_34 (by decide) ?_
  refine lv_istore hx hb d_Rd_init_35 hl (by decide) rfl (fun ls hl => ?_)
  have hl : lv_has ls 5 [(4, .int 0), (2, .long 0), (1, .int 0), (0, .ref h0)] := hl
  have hl : lv_has ls 5 [(4, .int (nI 0)), (1, .int 0), (2, .long 0), (0, .ref h0)] := lv_sub hl [0, 2, 1, 3] rfl
  refine lp_ind (σ := (Nat → Int64) × Int32 × Int64) (fun i x H locs ls => (x = kwS i ∧ ¬ x.2.1 < 0) ∧ va_P (dC, dI) classes [(h0, .inr (9, [.null, .null, .int 0, .int 0, .int 0, .long 0, .long 0, .int 0, .int 0, .int 0, .ref q8, .ref q17, .ref q25])), (q8, .inl (cI, 301, .inl (fun _ => 0))), (q17, .inl (cI, 301, .inl (fun _ => 0))), (q25, .inl (cJ, 26, .inr (.inl x.1)))] H ∧ va_D A [(h0, .inr (9, [.null, .null, .int 0, .int 0, .int 0, .long 0, .long 0, .int 0, .int 0, .int 0, .ref q8, .ref q17, .ref q25])), (q8, .inl (cI, 301, .inl (fun _ => 0))), (q17, .inl (cI, 301, .inl (fun _ => 0))), (q25, .inl (cJ, 26, .inr (.inl x.1)))] ∧ va_S A s.heap H locs ∧ lv_has ls 5 [(4, .int (nI i)), (1, .int x.2.1), (2, .long x.2.2), (0, .ref h0)]) 37 114 ?_ ?_ 0 ((fun _ => 0), 0, 0) _ _ _ (Nat.zero_le _) ⟨⟨rfl, (show ¬ (0 : Int32) < 0 by decide)⟩, hP, hD, hS, hl⟩
  · intro i x H locs ls hi hI hki
    obtain ⟨xi_3, v1, v2⟩ := x
    obtain ⟨⟨hk, hv1⟩, hP, hD, hS, hl⟩ := hI
    have hv1 : ¬ v1 < 0 := hv1
    have hP : va_P (dC, dI) classes [(h0, .inr (9, [.null, .null, .int 0, .int 0, .int 0, .long 0, .long 0, .int 0, .int 0, .int 0, .ref q8, .ref q17, .ref q25])), (q8, .inl (cI, 301, .inl (fun _ => 0))), (q17, .inl (cI, 301, .inl (fun _ => 0))), (q25, .inl (cJ, 26, .inr (.inl xi_3)))] H := hP
    have hD : va_D A [(h0, .inr (9, [.null, .null, .int 0, .int 0, .int 0, .long 0, .long 0, .int 0, .int 0, .int 0, .ref q8, .ref q17, .ref q25])), (q8, .inl (cI, 301, .inl (fun _ => 0))), (q17, .inl (cI, 301, .inl (fun _ => 0))), (q25, .inl (cJ, 26, .inr (.inl xi_3)))] := hD
    have hl : lv_has ls 5 [(4, .int (nI i)), (1, .int v1), (2, .long v2), (0, .ref h0)] := hl
    refine lv_iload hx hb d_Rd_init_37 (lv_at hl 0 rfl) ?_
    refine va_ldcS hx hb hown hG.2.2.2.2.1 d_Rd_init_39 ?_
    have hPc := hP.sub (ws' := []) [] rfl
    have hDc := hD.sub (ws' := []) [] (by decide) rfl
    have hFc := pu_free hS hA
    refine va_calli (va_runV (C := R_Sg) (As := []) (rest := [.int (nI i)]) ⟨hx, hb, hml, hown, hts⟩ (z1_c_Sg_length l dC dI cI cB cZ cJ tPA adK adV  H.size) (cwV 0 hts (tb_V mw_584 mw_585 mw_586 mw_14 mw_587) rfl rfl rfl ⟨rfl, by decide +kernel, by decide +kernel, by decide +kernel⟩ ⟨(Nat.le_of_ble_eq_true rfl), (Nat.le_of_ble_eq_true rfl)⟩) ⟨pwg_blind, vk_recv hG.2.2.2.1 (i := 0) (by decide) hS, pwg_pre hPc hK hDc hG hS hFc⟩ rfl rfl hl.1 rfl (lv_room (Nat.le_of_ble_eq_true rfl)) d_Rd_init_41 ⟨(Nat.le_of_ble_eq_true rfl), (Nat.le_of_ble_eq_true rfl)⟩) hS (fun q _ h => hFc q h) hFc (fun r u t H locs ht hvm hw hB hz1 hk1 hS => ?_)
    have hP := pu_kept hP hk1
    obtain rfl : r = 114 := hw
    refine lv_icmp_ge (tgt := 104) hx hb d_Rd_init_44 (by decide) (fun h => absurd h (show ¬ (114 : Int32) ≤ nI i from nI_ge hi (by decide))) (fun _ => ?_)
    refine lv_iload_n hx hb d_Rd_init_47 rfl (lv_at hl 1 rfl) ?_
    refine lv_bipush (v := 26) hx hb d_Rd_init_48 (by decide) ?_
    refine lv_icmp_ge (tgt := 104) hx hb d_Rd_init_50 (by decide) (fun h50x1 => ?_) (fun h50x1 => ?_)
    · exact absurd h50x1 (kw_n hk hi)
    · refine va_ldcS hx hb hown hG.2.2.2.2.1 d_Rd_init_53 ?_
      refine lv_iload hx hb d_Rd_init_55 (lv_at hl 0 rfl) ?_
      have hPc := hP.sub (ws' := []) [] rfl
      have hDc := hD.sub (ws' := []) [] (by decide) rfl
      have hFc := pu_free hS hA
      refine va_calli (va_runV (C := R_Sg) (As := [.int (nI i)]) (rest := []) ⟨hx, hb, hml, hown, hts⟩ (z1_c_Sg_charAt l dC dI cI cB cZ cJ tPA adK adV (nI i) ((nI_pos (Nat.lt_trans hi (by decide)))) ((show ¬ (114 : Int32) ≤ nI i from nI_ge hi (by decide))) H.size) (cwV 1 hts (tb_V mw_594 mw_595 mw_596 mw_14 mw_597) rfl rfl rfl ⟨rfl, by decide +kernel, by decide +kernel, by decide +kernel⟩ ⟨(Nat.le_of_ble_eq_true rfl), (Nat.le_of_ble_eq_true rfl)⟩) ⟨pwg_blind, vk_recv hG.2.2.2.1 (i := 0) (by decide) hS, pwg_pre hPc hK hDc hG hS hFc⟩ rfl rfl hl.1 rfl (lv_room (Nat.le_of_ble_eq_true rfl)) d_Rd_init_57 ⟨(Nat.le_of_ble_eq_true rfl), (Nat.le_of_ble_eq_true rfl)⟩) hS (fun q _ h => hFc q h) hFc (fun r u t H locs ht hvm hw hB hz1 hk1 hS => ?_)
      have hP := pu_kept hP hk1
      obtain rfl : r = ((kwb (nI i)) &&& 255) := hw
      refine lv_bipush (v := 32) hx hb d_Rd_init_60 (by decide) ?_
      refine lv_icmp_ne (tgt := 80) hx hb d_Rd_init_62 (by decide) (fun h62x2 => ?_) (fun h62x2 => ?_)
      · refine lv_lload_n hx hb d_Rd_init_80 rfl (lv_at hl 2 rfl) ?_
        refine lv_ldc2 (v := 37) hx hb hown (hts _ (List.mem_cons_of_mem _ mw_632)) d_Rd_init_81 ?_
        refine lv_lmul hx hb d_Rd_init_84 ?_
        refine lv_topl (fun z84_3 ez84_3 => ?_)
        refine va_ldcS hx hb hown hG.2.2.2.2.1 d_Rd_init_85 ?_
        refine lv_iload hx hb d_Rd_init_87 (lv_at hl 0 rfl) ?_
        have hPc := hP.sub (ws' := []) [] rfl
        have hDc := hD.sub (ws' := []) [] (by decide) rfl
        have hFc := pu_free hS hA
        refine va_calli (va_runV (C := R_Sg) (As := [.int (nI i)]) (rest := [.long z84_3]) ⟨hx, hb, hml, hown, hts⟩ (z1_c_Sg_charAt l dC dI cI cB cZ cJ tPA adK adV (nI i) ((nI_pos (Nat.lt_trans hi (by decide)))) ((show ¬ (114 : Int32) ≤ nI i from nI_ge hi (by decide))) H.size) (cwV 1 hts (tb_V mw_594 mw_595 mw_596 mw_14 mw_597) rfl rfl rfl ⟨rfl, by decide +kernel, by decide +kernel, by decide +kernel⟩ ⟨(Nat.le_of_ble_eq_true rfl), (Nat.le_of_ble_eq_true rfl)⟩) ⟨pwg_blind, vk_recv hG.2.2.2.1 (i := 0) (by decide) hS, pwg_pre hPc hK hDc hG hS hFc⟩ rfl rfl hl.1 rfl (lv_room (Nat.le_of_ble_eq_true rfl)) d_Rd_init_89 ⟨(Nat.le_of_ble_eq_true rfl), (Nat.le_of_ble_eq_true rfl)⟩) hS (fun q _ h => hFc q h) hFc (fun r u t H locs ht hvm hw hB hz1 hk1 hS => ?_)
        have hP := pu_kept hP hk1
        obtain rfl : r = ((kwb (nI i)) &&& 255) := hw
        have hPc := hP.sub (ws' := []) [] rfl
        have hDc := hD.sub (ws' := []) [] (by decide) rfl
        have hFc := pu_free hS hA
        refine va_calli (va_runS (As := [.int (((kwb (nI i)) &&& 255))]) (rest := [.long z84_3]) ⟨hx, hb, hml, hown, hts⟩ (c_Rd_digitOf l dC dI cI cB cZ cJ ((((kwb (nI i)) &&& 255))) H.size) (va_cwS 1 hts (tb_S2 mw_633 mw_634 mw_13 mw_635) rfl rfl rfl ⟨by decide +kernel, by decide +kernel, by decide +kernel⟩ ⟨(Nat.le_of_ble_eq_true rfl), (Nat.le_of_ble_eq_true rfl)⟩) ⟨pw_blind, pw_pre hPc hK hDc⟩ rfl rfl hl.1 rfl (lv_room (Nat.le_of_ble_eq_true rfl)) d_Rd_init_92 ⟨(Nat.le_of_ble_eq_true rfl), (Nat.le_of_ble_eq_true rfl)⟩) hS (fun q _ h => hFc q h) hFc (fun r u t H locs ht hvm hw hB hz1 hk1 hS => ?_)
        have hP := pu_kept hP hk1
        obtain rfl : r = (fn_Rd_digitOf ((((kwb (nI i)) &&& 255)))) := hw
        refine lv_i2l hx hb d_Rd_init_95 rfl ?_
        refine lv_ladd hx hb d_Rd_init_96 ?_
        refine lv_topl (fun z96_4 ez96_4 => ?_)
        refine lv_lstore_n hx hb d_Rd_init_97 rfl hl (by decide) rfl (fun ls hl => ?_)
        have hl : lv_has ls 5 [(2, .long z96_4), (4, .int (nI i)), (1, .int v1), (0, .ref h0)] := hl
        refine lv_iinc (k := 1) (v := (nI (i + 1))) hx hb d_Rd_init_98 hl rfl (by first | rfl | decide | exact nI_1 i | exact pv_1 j hj) (by decide) rfl (fun ls hl => ?_)
        have hl : lv_has ls 5 [(4, .int (nI (i + 1))), (2, .long z96_4), (1, .int v1), (0, .ref h0)] := hl
        refine lv_goto (tgt := 37) hx hb d_Rd_init_101 (by decide) ?_
        have hl : lv_has ls 5 [(4, .int (nI (i + 1))), (1, .int v1), (2, .long z96_4), (0, .ref h0)] := lv_sub hl [0, 2, 1, 3] rfl
        exact hki (xi_3, v1, z96_4) H locs ls ⟨⟨kw_b hk (by first | exact h62x2 | exact fun z => h62x2 z) ez84_3 ez96_4, hv1⟩, hP, hD, hS, hl⟩
      · refine lv_aload_n hx hb d_Rd_init_65 rfl (lv_at hl 3 rfl) ?_
        refine va_get (D := (dC, dI)) (ci := 9) (v := .ref q25) (C := R_Rd) (T := F_Rd) (N := 13) hx hb hts (fun w h => List.mem_cons_of_mem _ (in_Rd w h)) hown hK.1 hP 0 rfl rfl 12 (by decide) (hts _ (List.mem_cons_of_mem _ mw_648)) (fun _ h9 => h9) rfl d_Rd_init_66 ?_
        refine lv_iload_n hx hb d_Rd_init_69 rfl (lv_at hl 1 rfl) ?_
        refine lv_lload_n hx hb d_Rd_init_70 rfl (lv_at hl 2 rfl) ?_
        refine va_last hx hb hK.1 hP hD hS 3 3 rfl rfl (ir_in2 hv1 h50x1 (by decide) (by decide)) d_Rd_init_71 (fun H locs hP hD hS => ?_)
        have hP : va_P (dC, dI) classes [(h0, .inr (9, [.null, .null, .int 0, .int 0, .int 0, .long 0, .long 0, .int 0, .int 0, .int 0, .ref q8, .ref q17, .ref q25])), (q8, .inl (cI, 301, .inl (fun _ => 0))), (q17, .inl (cI, 301, .inl (fun _ => 0))), (q25, .inl (cJ, 26, .inr (.inl ((vp_updL xi_3 (v1 : Int32).toNatClampNeg v2)))))] H := hP
        have hD : va_D A [(h0, .inr (9, [.null, .null, .int 0, .int 0, .int 0, .long 0, .long 0, .int 0, .int 0, .int 0, .ref q8, .ref q17, .ref q25])), (q8, .inl (cI, 301, .inl (fun _ => 0))), (q17, .inl (cI, 301, .inl (fun _ => 0))), (q25, .inl (cJ, 26, .inr (.inl ((vp_updL xi_3 (v1 : Int32).toNatClampNeg v2)))))] := hD
        generalize ef71 : (vp_updL xi_3 (v1 : Int32).toNatClampNeg v2) = f71_3 at hP hD
        refine lv_iinc (k := 1) (v := (v1 + 1)) hx hb d_Rd_init_72 hl rfl (by first | rfl | decide | exact nI_1 i | exact pv_1 j hj) (by decide) rfl (fun ls hl => ?_)
        have hl : lv_has ls 5 [(1, .int (v1 + 1)), (4, .int (nI i)), (2, .long v2), (0, .ref h0)] := hl
        refine lv_lconst (v := 0) hx hb d_Rd_init_75 (by decide) ?_
        refine lv_lstore_n hx hb d_Rd_init_76 rfl hl (by decide) rfl (fun ls hl => ?_)
        have hl : lv_has ls 5 [(2, .long 0), (1, .int (v1 + 1)), (4, .int (nI i)), (0, .ref h0)] := hl
        refine lv_goto (tgt := 98) hx hb d_Rd_init_77 (by decide) ?_
        refine lv_iinc (k := 2) (v := (nI (i + 1))) hx hb d_Rd_init_98 hl rfl (by first | rfl | decide | exact nI_1 i | exact pv_1 j hj) (by decide) rfl (fun ls hl => ?_)
        have hl : lv_has ls 5 [(4, .int (nI (i + 1))), (2, .long 0), (1, .int (v1 + 1)), (0, .ref h0)] := hl
        refine lv_goto (tgt := 37) hx hb d_Rd_init_101 (by decide) ?_
        have hl : lv_has ls 5 [(4, .int (nI (i + 1))), (1, .int (v1 + 1)), (2, .long 0), (0, .ref h0)] := lv_sub hl [0, 2, 1, 3] rfl
        exact hki (f71_3, (v1 + 1), 0) H locs ls ⟨⟨kw_a hk (by first | exact h62x2 | exact Classical.not_not.mp h62x2) ef71, (in_26 hv1 h50x1)⟩, hP, hD, hS, hl⟩
  · intro x H locs ls hI
    obtain ⟨xi_3, v1, v2⟩ := x
    obtain ⟨⟨hk, hv1⟩, hP, hD, hS, hl⟩ := hI
    have hv1 : ¬ v1 < 0 := hv1
    have hP : va_P (dC, dI) classes [(h0, .inr (9, [.null, .null, .int 0, .int 0, .int 0, .long 0, .long 0, .int 0, .int 0, .int 0, .ref q8, .ref q17, .ref q25])), (q8, .inl (cI, 301, .inl (fun _ => 0))), (q17, .inl (cI, 301, .inl (fun _ => 0))), (q25, .inl (cJ, 26, .inr (.inl xi_3)))] H := hP
    have hD : va_D A [(h0, .inr (9, [.null, .null, .int 0, .int 0, .int 0, .long 0, .long 0, .int 0, .int 0, .int 0, .ref q8, .ref q17, .ref q25])), (q8, .inl (cI, 301, .inl (fun _ => 0))), (q17, .inl (cI, 301, .inl (fun _ => 0))), (q25, .inl (cJ, 26, .inr (.inl xi_3)))] := hD
    have hl : lv_has ls 5 [(4, .int (nI 114)), (1, .int v1), (2, .long v2), (0, .ref h0)] := hl
    refine lv_iload hx hb d_Rd_init_37 (lv_at hl 0 rfl) ?_
    refine va_ldcS hx hb hown hG.2.2.2.2.1 d_Rd_init_39 ?_
    have hPc := hP.sub (ws' := []) [] rfl
    have hDc := hD.sub (ws' := []) [] (by decide) rfl
    have hFc := pu_free hS hA
    refine va_calli (va_runV (C := R_Sg) (As := []) (rest := [.int (nI 114)]) ⟨hx, hb, hml, hown, hts⟩ (z1_c_Sg_length l dC dI cI cB cZ cJ tPA adK adV  H.size) (cwV 0 hts (tb_V mw_584 mw_585 mw_586 mw_14 mw_587) rfl rfl rfl ⟨rfl, by decide +kernel, by decide +kernel, by decide +kernel⟩ ⟨(Nat.le_of_ble_eq_true rfl), (Nat.le_of_ble_eq_true rfl)⟩) ⟨pwg_blind, vk_recv hG.2.2.2.1 (i := 0) (by decide) hS, pwg_pre hPc hK hDc hG hS hFc⟩ rfl rfl hl.1 rfl (lv_room (Nat.le_of_ble_eq_true rfl)) d_Rd_init_41 ⟨(Nat.le_of_ble_eq_true rfl), (Nat.le_of_ble_eq_true rfl)⟩) hS (fun q _ h => hFc q h) hFc (fun r u t H locs ht hvm hw hB hz1 hk1 hS => ?_)
    have hP := pu_kept hP hk1
    obtain rfl : r = 114 := hw
    refine lv_icmp_ge (tgt := 104) hx hb d_Rd_init_44 (by decide) (fun _ => ?_) (fun h => absurd (show (114 : Int32) ≤ nI 114 from nI_le (Nat.le_refl _) (by decide)) h)
    exact W.vret hx hb hr (fun t ht hW => ⟨⟨(), rfl, trivial, ⟨q8, q17, q25, xi_3, congrArg Prod.fst hk, by rw [ht]; exact hP, hD⟩⟩, hS.F ht⟩) hS.2.2 d_Rd_init_104
