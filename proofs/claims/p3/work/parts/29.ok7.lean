abbrev t_Sf_meet_252 : List UInt8 := 172 :: []
abbrev t_Sf_meet_251 : List UInt8 := 3 :: t_Sf_meet_252
abbrev t_Sf_meet_248 : List UInt8 := 167 :: 0 :: 4 :: t_Sf_meet_251
abbrev t_Sf_meet_247 : List UInt8 := 4 :: t_Sf_meet_248
abbrev t_Sf_meet_244 : List UInt8 := 162 :: 0 :: 7 :: t_Sf_meet_247
abbrev t_Sf_meet_242 : List UInt8 := 16 :: 44 :: t_Sf_meet_244
abbrev t_Sf_meet_239 : List UInt8 := 180 :: 0 :: 104 :: t_Sf_meet_242
abbrev t_Sf_meet_238 : List UInt8 := 42 :: t_Sf_meet_239
abbrev t_Sf_meet_235 : List UInt8 := 167 :: 255 :: 29 :: t_Sf_meet_238
abbrev t_Sf_meet_232 : List UInt8 := 132 :: 1 :: 1 :: t_Sf_meet_235
abbrev t_Sf_meet_229 : List UInt8 := 167 :: 255 :: 143 :: t_Sf_meet_232
abbrev t_Sf_meet_226 : List UInt8 := 132 :: 4 :: 1 :: t_Sf_meet_229
abbrev t_Sf_meet_223 : List UInt8 := 181 :: 0 :: 118 :: t_Sf_meet_226
abbrev t_Sf_meet_222 : List UInt8 := 27 :: t_Sf_meet_223
abbrev t_Sf_meet_221 : List UInt8 := 42 :: t_Sf_meet_222
abbrev t_Sf_meet_218 : List UInt8 := 181 :: 0 :: 115 :: t_Sf_meet_221
abbrev t_Sf_meet_216 : List UInt8 := 21 :: 4 :: t_Sf_meet_218
abbrev t_Sf_meet_215 : List UInt8 := 42 :: t_Sf_meet_216
abbrev t_Sf_meet_212 : List UInt8 := 181 :: 0 :: 104 :: t_Sf_meet_215
abbrev t_Sf_meet_210 : List UInt8 := 21 :: 7 :: t_Sf_meet_212
abbrev t_Sf_meet_209 : List UInt8 := 42 :: t_Sf_meet_210
abbrev t_Sf_meet_206 : List UInt8 := 162 :: 0 :: 20 :: t_Sf_meet_209
abbrev t_Sf_meet_203 : List UInt8 := 180 :: 0 :: 115 :: t_Sf_meet_206
abbrev t_Sf_meet_202 : List UInt8 := 42 :: t_Sf_meet_203
abbrev t_Sf_meet_200 : List UInt8 := 21 :: 4 :: t_Sf_meet_202
abbrev t_Sf_meet_197 : List UInt8 := 162 :: 0 :: 29 :: t_Sf_meet_200
abbrev t_Sf_meet_195 : List UInt8 := 16 :: 44 :: t_Sf_meet_197
abbrev t_Sf_meet_193 : List UInt8 := 21 :: 7 :: t_Sf_meet_195
abbrev t_Sf_meet_190 : List UInt8 := 160 :: 0 :: 36 :: t_Sf_meet_193
abbrev t_Sf_meet_187 : List UInt8 := 180 :: 0 :: 104 :: t_Sf_meet_190
abbrev t_Sf_meet_186 : List UInt8 := 42 :: t_Sf_meet_187
abbrev t_Sf_meet_184 : List UInt8 := 21 :: 7 :: t_Sf_meet_186
abbrev t_Sf_meet_181 : List UInt8 := 161 :: 0 :: 28 :: t_Sf_meet_184
abbrev t_Sf_meet_178 : List UInt8 := 180 :: 0 :: 104 :: t_Sf_meet_181
abbrev t_Sf_meet_177 : List UInt8 := 42 :: t_Sf_meet_178
abbrev t_Sf_meet_175 : List UInt8 := 21 :: 7 :: t_Sf_meet_177
abbrev t_Sf_meet_173 : List UInt8 := 54 :: 7 :: t_Sf_meet_175
abbrev t_Sf_meet_170 : List UInt8 := 184 :: 0 :: 107 :: t_Sf_meet_173
abbrev t_Sf_meet_168 : List UInt8 := 22 :: 5 :: t_Sf_meet_170
abbrev t_Sf_meet_165 : List UInt8 := 167 :: 0 :: 8 :: t_Sf_meet_168
abbrev t_Sf_meet_163 : List UInt8 := 16 :: 44 :: t_Sf_meet_165
abbrev t_Sf_meet_160 : List UInt8 := 154 :: 0 :: 8 :: t_Sf_meet_163
abbrev t_Sf_meet_159 : List UInt8 := 148 :: t_Sf_meet_160
abbrev t_Sf_meet_158 : List UInt8 := 9 :: t_Sf_meet_159
abbrev t_Sf_meet_156 : List UInt8 := 22 :: 5 :: t_Sf_meet_158
abbrev t_Sf_meet_154 : List UInt8 := 55 :: 5 :: t_Sf_meet_156
abbrev t_Sf_meet_153 : List UInt8 := 9 :: t_Sf_meet_154
abbrev t_Sf_meet_150 : List UInt8 := 167 :: 0 :: 4 :: t_Sf_meet_153
abbrev t_Sf_meet_149 : List UInt8 := 127 :: t_Sf_meet_150
abbrev t_Sf_meet_148 : List UInt8 := 47 :: t_Sf_meet_149
abbrev t_Sf_meet_146 : List UInt8 := 21 :: 4 :: t_Sf_meet_148
abbrev t_Sf_meet_143 : List UInt8 := 180 :: 0 :: 19 :: t_Sf_meet_146
abbrev t_Sf_meet_142 : List UInt8 := 42 :: t_Sf_meet_143
abbrev t_Sf_meet_141 : List UInt8 := 47 :: t_Sf_meet_142
abbrev t_Sf_meet_140 : List UInt8 := 27 :: t_Sf_meet_141
abbrev t_Sf_meet_137 : List UInt8 := 180 :: 0 :: 19 :: t_Sf_meet_140
abbrev t_Sf_meet_136 : List UInt8 := 42 :: t_Sf_meet_137
abbrev t_Sf_meet_133 : List UInt8 := 153 :: 0 :: 20 :: t_Sf_meet_136
abbrev t_Sf_meet_132 : List UInt8 := 126 :: t_Sf_meet_133
abbrev t_Sf_meet_131 : List UInt8 := 4 :: t_Sf_meet_132
abbrev t_Sf_meet_130 : List UInt8 := 122 :: t_Sf_meet_131
abbrev t_Sf_meet_128 : List UInt8 := 21 :: 4 :: t_Sf_meet_130
abbrev t_Sf_meet_127 : List UInt8 := 46 :: t_Sf_meet_128
abbrev t_Sf_meet_126 : List UInt8 := 27 :: t_Sf_meet_127
abbrev t_Sf_meet_123 : List UInt8 := 180 :: 0 :: 15 :: t_Sf_meet_126
abbrev t_Sf_meet_122 : List UInt8 := 42 :: t_Sf_meet_123
abbrev t_Sf_meet_119 : List UInt8 := 162 :: 0 :: 113 :: t_Sf_meet_122
abbrev t_Sf_meet_118 : List UInt8 := 27 :: t_Sf_meet_119
abbrev t_Sf_meet_116 : List UInt8 := 21 :: 4 :: t_Sf_meet_118
abbrev t_Sf_meet_114 : List UInt8 := 54 :: 4 :: t_Sf_meet_116
abbrev t_Sf_meet_113 : List UInt8 := 4 :: t_Sf_meet_114
abbrev t_Sf_meet_110 : List UInt8 := 167 :: 255 :: 195 :: t_Sf_meet_113
abbrev t_Sf_meet_107 : List UInt8 := 132 :: 4 :: 1 :: t_Sf_meet_110
abbrev t_Sf_meet_106 : List UInt8 := 80 :: t_Sf_meet_107
abbrev t_Sf_meet_105 : List UInt8 := 129 :: t_Sf_meet_106
abbrev t_Sf_meet_103 : List UInt8 := 22 :: 5 :: t_Sf_meet_105
abbrev t_Sf_meet_102 : List UInt8 := 47 :: t_Sf_meet_103
abbrev t_Sf_meet_101 : List UInt8 := 92 :: t_Sf_meet_102
abbrev t_Sf_meet_100 : List UInt8 := 27 :: t_Sf_meet_101
abbrev t_Sf_meet_97 : List UInt8 := 180 :: 0 :: 19 :: t_Sf_meet_100
abbrev t_Sf_meet_96 : List UInt8 := 42 :: t_Sf_meet_97
abbrev t_Sf_meet_95 : List UInt8 := 65 :: t_Sf_meet_96
abbrev t_Sf_meet_94 : List UInt8 := 129 :: t_Sf_meet_95
abbrev t_Sf_meet_92 : List UInt8 := 22 :: 5 :: t_Sf_meet_94
abbrev t_Sf_meet_91 : List UInt8 := 127 :: t_Sf_meet_92
abbrev t_Sf_meet_90 : List UInt8 := 101 :: t_Sf_meet_91
abbrev t_Sf_meet_89 : List UInt8 := 10 :: t_Sf_meet_90
abbrev t_Sf_meet_88 : List UInt8 := 32 :: t_Sf_meet_89
abbrev t_Sf_meet_87 : List UInt8 := 32 :: t_Sf_meet_88
abbrev t_Sf_meet_85 : List UInt8 := 55 :: 5 :: t_Sf_meet_87
abbrev t_Sf_meet_84 : List UInt8 := 127 :: t_Sf_meet_85
abbrev t_Sf_meet_83 : List UInt8 := 131 :: t_Sf_meet_84
abbrev t_Sf_meet_80 : List UInt8 := 20 :: 0 :: 113 :: t_Sf_meet_83
abbrev t_Sf_meet_79 : List UInt8 := 47 :: t_Sf_meet_80
abbrev t_Sf_meet_78 : List UInt8 := 27 :: t_Sf_meet_79
abbrev t_Sf_meet_75 : List UInt8 := 180 :: 0 :: 19 :: t_Sf_meet_78
abbrev t_Sf_meet_74 : List UInt8 := 42 :: t_Sf_meet_75
abbrev t_Sf_meet_73 : List UInt8 := 47 :: t_Sf_meet_74
abbrev t_Sf_meet_72 : List UInt8 := 112 :: t_Sf_meet_73
abbrev t_Sf_meet_70 : List UInt8 := 16 :: 44 :: t_Sf_meet_72
abbrev t_Sf_meet_67 : List UInt8 := 184 :: 0 :: 107 :: t_Sf_meet_70
abbrev t_Sf_meet_66 : List UInt8 := 32 :: t_Sf_meet_67
abbrev t_Sf_meet_63 : List UInt8 := 180 :: 0 :: 22 :: t_Sf_meet_66
abbrev t_Sf_meet_62 : List UInt8 := 42 :: t_Sf_meet_63
abbrev t_Sf_meet_59 : List UInt8 := 153 :: 0 :: 54 :: t_Sf_meet_62
abbrev t_Sf_meet_58 : List UInt8 := 148 :: t_Sf_meet_59
abbrev t_Sf_meet_57 : List UInt8 := 9 :: t_Sf_meet_58
abbrev t_Sf_meet_56 : List UInt8 := 32 :: t_Sf_meet_57
abbrev t_Sf_meet_53 : List UInt8 := 162 :: 0 :: 60 :: t_Sf_meet_56
abbrev t_Sf_meet_51 : List UInt8 := 16 :: 44 :: t_Sf_meet_53
abbrev t_Sf_meet_49 : List UInt8 := 21 :: 4 :: t_Sf_meet_51
abbrev t_Sf_meet_47 : List UInt8 := 54 :: 4 :: t_Sf_meet_49
abbrev t_Sf_meet_46 : List UInt8 := 3 :: t_Sf_meet_47
abbrev t_Sf_meet_45 : List UInt8 := 65 :: t_Sf_meet_46
abbrev t_Sf_meet_44 : List UInt8 := 47 :: t_Sf_meet_45
abbrev t_Sf_meet_43 : List UInt8 := 27 :: t_Sf_meet_44
abbrev t_Sf_meet_40 : List UInt8 := 180 :: 0 :: 9 :: t_Sf_meet_43
abbrev t_Sf_meet_39 : List UInt8 := 42 :: t_Sf_meet_40
abbrev t_Sf_meet_36 : List UInt8 := 167 :: 0 :: 9 :: t_Sf_meet_39
abbrev t_Sf_meet_35 : List UInt8 := 9 :: t_Sf_meet_36
abbrev t_Sf_meet_32 : List UInt8 := 154 :: 0 :: 7 :: t_Sf_meet_35
abbrev t_Sf_meet_31 : List UInt8 := 46 :: t_Sf_meet_32
abbrev t_Sf_meet_30 : List UInt8 := 27 :: t_Sf_meet_31
abbrev t_Sf_meet_27 : List UInt8 := 180 :: 0 :: 15 :: t_Sf_meet_30
abbrev t_Sf_meet_26 : List UInt8 := 42 :: t_Sf_meet_27
abbrev t_Sf_meet_25 : List UInt8 := 80 :: t_Sf_meet_26
abbrev t_Sf_meet_24 : List UInt8 := 47 :: t_Sf_meet_25
abbrev t_Sf_meet_23 : List UInt8 := 27 :: t_Sf_meet_24
abbrev t_Sf_meet_20 : List UInt8 := 180 :: 0 :: 9 :: t_Sf_meet_23
abbrev t_Sf_meet_19 : List UInt8 := 42 :: t_Sf_meet_20
abbrev t_Sf_meet_18 : List UInt8 := 27 :: t_Sf_meet_19
abbrev t_Sf_meet_15 : List UInt8 := 180 :: 0 :: 19 :: t_Sf_meet_18
abbrev t_Sf_meet_14 : List UInt8 := 42 :: t_Sf_meet_15
abbrev t_Sf_meet_11 : List UInt8 := 163 :: 0 :: 227 :: t_Sf_meet_14
abbrev t_Sf_meet_9 : List UInt8 := 16 :: 14 :: t_Sf_meet_11
abbrev t_Sf_meet_8 : List UInt8 := 27 :: t_Sf_meet_9
abbrev t_Sf_meet_7 : List UInt8 := 60 :: t_Sf_meet_8
abbrev t_Sf_meet_6 : List UInt8 := 4 :: t_Sf_meet_7
abbrev t_Sf_meet_3 : List UInt8 := 181 :: 0 :: 104 :: t_Sf_meet_6
abbrev t_Sf_meet_1 : List UInt8 := 16 :: 44 :: t_Sf_meet_3
abbrev t_Sf_meet_0 : List UInt8 := 42 :: t_Sf_meet_1
theorem a_Sf_meet_0 : dk_at b_Sf_meet 0 t_Sf_meet_0 := dk_start (by decide +kernel)
theorem a_Sf_meet_1 : dk_at b_Sf_meet 1 t_Sf_meet_1 := dk_go 1 a_Sf_meet_0 rfl
theorem a_Sf_meet_3 : dk_at b_Sf_meet 3 t_Sf_meet_3 := dk_go 2 a_Sf_meet_1 rfl
theorem a_Sf_meet_6 : dk_at b_Sf_meet 6 t_Sf_meet_6 := dk_go 3 a_Sf_meet_3 rfl
theorem a_Sf_meet_7 : dk_at b_Sf_meet 7 t_Sf_meet_7 := dk_go 1 a_Sf_meet_6 rfl
theorem a_Sf_meet_8 : dk_at b_Sf_meet 8 t_Sf_meet_8 := dk_go 1 a_Sf_meet_7 rfl
theorem a_Sf_meet_9 : dk_at b_Sf_meet 9 t_Sf_meet_9 := dk_go 1 a_Sf_meet_8 rfl
theorem a_Sf_meet_11 : dk_at b_Sf_meet 11 t_Sf_meet_11 := dk_go 2 a_Sf_meet_9 rfl
theorem a_Sf_meet_14 : dk_at b_Sf_meet 14 t_Sf_meet_14 := dk_go 3 a_Sf_meet_11 rfl
theorem a_Sf_meet_15 : dk_at b_Sf_meet 15 t_Sf_meet_15 := dk_go 1 a_Sf_meet_14 rfl
theorem a_Sf_meet_18 : dk_at b_Sf_meet 18 t_Sf_meet_18 := dk_go 3 a_Sf_meet_15 rfl
theorem a_Sf_meet_19 : dk_at b_Sf_meet 19 t_Sf_meet_19 := dk_go 1 a_Sf_meet_18 rfl
theorem a_Sf_meet_20 : dk_at b_Sf_meet 20 t_Sf_meet_20 := dk_go 1 a_Sf_meet_19 rfl
theorem a_Sf_meet_23 : dk_at b_Sf_meet 23 t_Sf_meet_23 := dk_go 3 a_Sf_meet_20 rfl
theorem a_Sf_meet_24 : dk_at b_Sf_meet 24 t_Sf_meet_24 := dk_go 1 a_Sf_meet_23 rfl
theorem a_Sf_meet_25 : dk_at b_Sf_meet 25 t_Sf_meet_25 := dk_go 1 a_Sf_meet_24 rfl
theorem a_Sf_meet_26 : dk_at b_Sf_meet 26 t_Sf_meet_26 := dk_go 1 a_Sf_meet_25 rfl
theorem a_Sf_meet_27 : dk_at b_Sf_meet 27 t_Sf_meet_27 := dk_go 1 a_Sf_meet_26 rfl
theorem a_Sf_meet_30 : dk_at b_Sf_meet 30 t_Sf_meet_30 := dk_go 3 a_Sf_meet_27 rfl
theorem a_Sf_meet_31 : dk_at b_Sf_meet 31 t_Sf_meet_31 := dk_go 1 a_Sf_meet_30 rfl
theorem a_Sf_meet_32 : dk_at b_Sf_meet 32 t_Sf_meet_32 := dk_go 1 a_Sf_meet_31 rfl
theorem a_Sf_meet_35 : dk_at b_Sf_meet 35 t_Sf_meet_35 := dk_go 3 a_Sf_meet_32 rfl
theorem a_Sf_meet_36 : dk_at b_Sf_meet 36 t_Sf_meet_36 := dk_go 1 a_Sf_meet_35 rfl
theorem a_Sf_meet_39 : dk_at b_Sf_meet 39 t_Sf_meet_39 := dk_go 3 a_Sf_meet_36 rfl
theorem a_Sf_meet_40 : dk_at b_Sf_meet 40 t_Sf_meet_40 := dk_go 1 a_Sf_meet_39 rfl
theorem a_Sf_meet_43 : dk_at b_Sf_meet 43 t_Sf_meet_43 := dk_go 3 a_Sf_meet_40 rfl
theorem a_Sf_meet_44 : dk_at b_Sf_meet 44 t_Sf_meet_44 := dk_go 1 a_Sf_meet_43 rfl
theorem a_Sf_meet_45 : dk_at b_Sf_meet 45 t_Sf_meet_45 := dk_go 1 a_Sf_meet_44 rfl
theorem a_Sf_meet_46 : dk_at b_Sf_meet 46 t_Sf_meet_46 := dk_go 1 a_Sf_meet_45 rfl
theorem a_Sf_meet_47 : dk_at b_Sf_meet 47 t_Sf_meet_47 := dk_go 1 a_Sf_meet_46 rfl
theorem a_Sf_meet_49 : dk_at b_Sf_meet 49 t_Sf_meet_49 := dk_go 2 a_Sf_meet_47 rfl
theorem a_Sf_meet_51 : dk_at b_Sf_meet 51 t_Sf_meet_51 := dk_go 2 a_Sf_meet_49 rfl
theorem a_Sf_meet_53 : dk_at b_Sf_meet 53 t_Sf_meet_53 := dk_go 2 a_Sf_meet_51 rfl
theorem a_Sf_meet_56 : dk_at b_Sf_meet 56 t_Sf_meet_56 := dk_go 3 a_Sf_meet_53 rfl
theorem a_Sf_meet_57 : dk_at b_Sf_meet 57 t_Sf_meet_57 := dk_go 1 a_Sf_meet_56 rfl
theorem a_Sf_meet_58 : dk_at b_Sf_meet 58 t_Sf_meet_58 := dk_go 1 a_Sf_meet_57 rfl
theorem a_Sf_meet_59 : dk_at b_Sf_meet 59 t_Sf_meet_59 := dk_go 1 a_Sf_meet_58 rfl
theorem a_Sf_meet_62 : dk_at b_Sf_meet 62 t_Sf_meet_62 := dk_go 3 a_Sf_meet_59 rfl
theorem a_Sf_meet_63 : dk_at b_Sf_meet 63 t_Sf_meet_63 := dk_go 1 a_Sf_meet_62 rfl
theorem a_Sf_meet_66 : dk_at b_Sf_meet 66 t_Sf_meet_66 := dk_go 3 a_Sf_meet_63 rfl
theorem a_Sf_meet_67 : dk_at b_Sf_meet 67 t_Sf_meet_67 := dk_go 1 a_Sf_meet_66 rfl
theorem a_Sf_meet_70 : dk_at b_Sf_meet 70 t_Sf_meet_70 := dk_go 3 a_Sf_meet_67 rfl
theorem a_Sf_meet_72 : dk_at b_Sf_meet 72 t_Sf_meet_72 := dk_go 2 a_Sf_meet_70 rfl
theorem a_Sf_meet_73 : dk_at b_Sf_meet 73 t_Sf_meet_73 := dk_go 1 a_Sf_meet_72 rfl
theorem a_Sf_meet_74 : dk_at b_Sf_meet 74 t_Sf_meet_74 := dk_go 1 a_Sf_meet_73 rfl
theorem a_Sf_meet_75 : dk_at b_Sf_meet 75 t_Sf_meet_75 := dk_go 1 a_Sf_meet_74 rfl
theorem a_Sf_meet_78 : dk_at b_Sf_meet 78 t_Sf_meet_78 := dk_go 3 a_Sf_meet_75 rfl
theorem a_Sf_meet_79 : dk_at b_Sf_meet 79 t_Sf_meet_79 := dk_go 1 a_Sf_meet_78 rfl
theorem a_Sf_meet_80 : dk_at b_Sf_meet 80 t_Sf_meet_80 := dk_go 1 a_Sf_meet_79 rfl
theorem a_Sf_meet_83 : dk_at b_Sf_meet 83 t_Sf_meet_83 := dk_go 3 a_Sf_meet_80 rfl
theorem a_Sf_meet_84 : dk_at b_Sf_meet 84 t_Sf_meet_84 := dk_go 1 a_Sf_meet_83 rfl
theorem a_Sf_meet_85 : dk_at b_Sf_meet 85 t_Sf_meet_85 := dk_go 1 a_Sf_meet_84 rfl
theorem a_Sf_meet_87 : dk_at b_Sf_meet 87 t_Sf_meet_87 := dk_go 2 a_Sf_meet_85 rfl
theorem a_Sf_meet_88 : dk_at b_Sf_meet 88 t_Sf_meet_88 := dk_go 1 a_Sf_meet_87 rfl
theorem a_Sf_meet_89 : dk_at b_Sf_meet 89 t_Sf_meet_89 := dk_go 1 a_Sf_meet_88 rfl
theorem a_Sf_meet_90 : dk_at b_Sf_meet 90 t_Sf_meet_90 := dk_go 1 a_Sf_meet_89 rfl
theorem a_Sf_meet_91 : dk_at b_Sf_meet 91 t_Sf_meet_91 := dk_go 1 a_Sf_meet_90 rfl
theorem a_Sf_meet_92 : dk_at b_Sf_meet 92 t_Sf_meet_92 := dk_go 1 a_Sf_meet_91 rfl
theorem a_Sf_meet_94 : dk_at b_Sf_meet 94 t_Sf_meet_94 := dk_go 2 a_Sf_meet_92 rfl
theorem a_Sf_meet_95 : dk_at b_Sf_meet 95 t_Sf_meet_95 := dk_go 1 a_Sf_meet_94 rfl
theorem a_Sf_meet_96 : dk_at b_Sf_meet 96 t_Sf_meet_96 := dk_go 1 a_Sf_meet_95 rfl
theorem a_Sf_meet_97 : dk_at b_Sf_meet 97 t_Sf_meet_97 := dk_go 1 a_Sf_meet_96 rfl
theorem a_Sf_meet_100 : dk_at b_Sf_meet 100 t_Sf_meet_100 := dk_go 3 a_Sf_meet_97 rfl
theorem a_Sf_meet_101 : dk_at b_Sf_meet 101 t_Sf_meet_101 := dk_go 1 a_Sf_meet_100 rfl
theorem a_Sf_meet_102 : dk_at b_Sf_meet 102 t_Sf_meet_102 := dk_go 1 a_Sf_meet_101 rfl
theorem a_Sf_meet_103 : dk_at b_Sf_meet 103 t_Sf_meet_103 := dk_go 1 a_Sf_meet_102 rfl
theorem a_Sf_meet_105 : dk_at b_Sf_meet 105 t_Sf_meet_105 := dk_go 2 a_Sf_meet_103 rfl
theorem a_Sf_meet_106 : dk_at b_Sf_meet 106 t_Sf_meet_106 := dk_go 1 a_Sf_meet_105 rfl
theorem a_Sf_meet_107 : dk_at b_Sf_meet 107 t_Sf_meet_107 := dk_go 1 a_Sf_meet_106 rfl
theorem a_Sf_meet_110 : dk_at b_Sf_meet 110 t_Sf_meet_110 := dk_go 3 a_Sf_meet_107 rfl
theorem a_Sf_meet_113 : dk_at b_Sf_meet 113 t_Sf_meet_113 := dk_go 3 a_Sf_meet_110 rfl
theorem a_Sf_meet_114 : dk_at b_Sf_meet 114 t_Sf_meet_114 := dk_go 1 a_Sf_meet_113 rfl
theorem a_Sf_meet_116 : dk_at b_Sf_meet 116 t_Sf_meet_116 := dk_go 2 a_Sf_meet_114 rfl
theorem a_Sf_meet_118 : dk_at b_Sf_meet 118 t_Sf_meet_118 := dk_go 2 a_Sf_meet_116 rfl
theorem a_Sf_meet_119 : dk_at b_Sf_meet 119 t_Sf_meet_119 := dk_go 1 a_Sf_meet_118 rfl
theorem a_Sf_meet_122 : dk_at b_Sf_meet 122 t_Sf_meet_122 := dk_go 3 a_Sf_meet_119 rfl
theorem a_Sf_meet_123 : dk_at b_Sf_meet 123 t_Sf_meet_123 := dk_go 1 a_Sf_meet_122 rfl
theorem a_Sf_meet_126 : dk_at b_Sf_meet 126 t_Sf_meet_126 := dk_go 3 a_Sf_meet_123 rfl
theorem a_Sf_meet_127 : dk_at b_Sf_meet 127 t_Sf_meet_127 := dk_go 1 a_Sf_meet_126 rfl
theorem a_Sf_meet_128 : dk_at b_Sf_meet 128 t_Sf_meet_128 := dk_go 1 a_Sf_meet_127 rfl
theorem a_Sf_meet_130 : dk_at b_Sf_meet 130 t_Sf_meet_130 := dk_go 2 a_Sf_meet_128 rfl
theorem a_Sf_meet_131 : dk_at b_Sf_meet 131 t_Sf_meet_131 := dk_go 1 a_Sf_meet_130 rfl
theorem a_Sf_meet_132 : dk_at b_Sf_meet 132 t_Sf_meet_132 := dk_go 1 a_Sf_meet_131 rfl
theorem a_Sf_meet_133 : dk_at b_Sf_meet 133 t_Sf_meet_133 := dk_go 1 a_Sf_meet_132 rfl
theorem a_Sf_meet_136 : dk_at b_Sf_meet 136 t_Sf_meet_136 := dk_go 3 a_Sf_meet_133 rfl
theorem a_Sf_meet_137 : dk_at b_Sf_meet 137 t_Sf_meet_137 := dk_go 1 a_Sf_meet_136 rfl
theorem a_Sf_meet_140 : dk_at b_Sf_meet 140 t_Sf_meet_140 := dk_go 3 a_Sf_meet_137 rfl
theorem a_Sf_meet_141 : dk_at b_Sf_meet 141 t_Sf_meet_141 := dk_go 1 a_Sf_meet_140 rfl
theorem a_Sf_meet_142 : dk_at b_Sf_meet 142 t_Sf_meet_142 := dk_go 1 a_Sf_meet_141 rfl
theorem a_Sf_meet_143 : dk_at b_Sf_meet 143 t_Sf_meet_143 := dk_go 1 a_Sf_meet_142 rfl
theorem a_Sf_meet_146 : dk_at b_Sf_meet 146 t_Sf_meet_146 := dk_go 3 a_Sf_meet_143 rfl
theorem a_Sf_meet_148 : dk_at b_Sf_meet 148 t_Sf_meet_148 := dk_go 2 a_Sf_meet_146 rfl
theorem a_Sf_meet_149 : dk_at b_Sf_meet 149 t_Sf_meet_149 := dk_go 1 a_Sf_meet_148 rfl
theorem a_Sf_meet_150 : dk_at b_Sf_meet 150 t_Sf_meet_150 := dk_go 1 a_Sf_meet_149 rfl
theorem a_Sf_meet_153 : dk_at b_Sf_meet 153 t_Sf_meet_153 := dk_go 3 a_Sf_meet_150 rfl
theorem a_Sf_meet_154 : dk_at b_Sf_meet 154 t_Sf_meet_154 := dk_go 1 a_Sf_meet_153 rfl
theorem a_Sf_meet_156 : dk_at b_Sf_meet 156 t_Sf_meet_156 := dk_go 2 a_Sf_meet_154 rfl
theorem a_Sf_meet_158 : dk_at b_Sf_meet 158 t_Sf_meet_158 := dk_go 2 a_Sf_meet_156 rfl
theorem a_Sf_meet_159 : dk_at b_Sf_meet 159 t_Sf_meet_159 := dk_go 1 a_Sf_meet_158 rfl
theorem a_Sf_meet_160 : dk_at b_Sf_meet 160 t_Sf_meet_160 := dk_go 1 a_Sf_meet_159 rfl
theorem a_Sf_meet_163 : dk_at b_Sf_meet 163 t_Sf_meet_163 := dk_go 3 a_Sf_meet_160 rfl
theorem a_Sf_meet_165 : dk_at b_Sf_meet 165 t_Sf_meet_165 := dk_go 2 a_Sf_meet_163 rfl
theorem a_Sf_meet_168 : dk_at b_Sf_meet 168 t_Sf_meet_168 := dk_go 3 a_Sf_meet_165 rfl
theorem a_Sf_meet_170 : dk_at b_Sf_meet 170 t_Sf_meet_170 := dk_go 2 a_Sf_meet_168 rfl
theorem a_Sf_meet_173 : dk_at b_Sf_meet 173 t_Sf_meet_173 := dk_go 3 a_Sf_meet_170 rfl
theorem a_Sf_meet_175 : dk_at b_Sf_meet 175 t_Sf_meet_175 := dk_go 2 a_Sf_meet_173 rfl
theorem a_Sf_meet_177 : dk_at b_Sf_meet 177 t_Sf_meet_177 := dk_go 2 a_Sf_meet_175 rfl
theorem a_Sf_meet_178 : dk_at b_Sf_meet 178 t_Sf_meet_178 := dk_go 1 a_Sf_meet_177 rfl
theorem a_Sf_meet_181 : dk_at b_Sf_meet 181 t_Sf_meet_181 := dk_go 3 a_Sf_meet_178 rfl
theorem a_Sf_meet_184 : dk_at b_Sf_meet 184 t_Sf_meet_184 := dk_go 3 a_Sf_meet_181 rfl
theorem a_Sf_meet_186 : dk_at b_Sf_meet 186 t_Sf_meet_186 := dk_go 2 a_Sf_meet_184 rfl
theorem a_Sf_meet_187 : dk_at b_Sf_meet 187 t_Sf_meet_187 := dk_go 1 a_Sf_meet_186 rfl
theorem a_Sf_meet_190 : dk_at b_Sf_meet 190 t_Sf_meet_190 := dk_go 3 a_Sf_meet_187 rfl
theorem a_Sf_meet_193 : dk_at b_Sf_meet 193 t_Sf_meet_193 := dk_go 3 a_Sf_meet_190 rfl
theorem a_Sf_meet_195 : dk_at b_Sf_meet 195 t_Sf_meet_195 := dk_go 2 a_Sf_meet_193 rfl
theorem a_Sf_meet_197 : dk_at b_Sf_meet 197 t_Sf_meet_197 := dk_go 2 a_Sf_meet_195 rfl
theorem a_Sf_meet_200 : dk_at b_Sf_meet 200 t_Sf_meet_200 := dk_go 3 a_Sf_meet_197 rfl
theorem a_Sf_meet_202 : dk_at b_Sf_meet 202 t_Sf_meet_202 := dk_go 2 a_Sf_meet_200 rfl
theorem a_Sf_meet_203 : dk_at b_Sf_meet 203 t_Sf_meet_203 := dk_go 1 a_Sf_meet_202 rfl
theorem a_Sf_meet_206 : dk_at b_Sf_meet 206 t_Sf_meet_206 := dk_go 3 a_Sf_meet_203 rfl
theorem a_Sf_meet_209 : dk_at b_Sf_meet 209 t_Sf_meet_209 := dk_go 3 a_Sf_meet_206 rfl
theorem a_Sf_meet_210 : dk_at b_Sf_meet 210 t_Sf_meet_210 := dk_go 1 a_Sf_meet_209 rfl
theorem a_Sf_meet_212 : dk_at b_Sf_meet 212 t_Sf_meet_212 := dk_go 2 a_Sf_meet_210 rfl
theorem a_Sf_meet_215 : dk_at b_Sf_meet 215 t_Sf_meet_215 := dk_go 3 a_Sf_meet_212 rfl
theorem a_Sf_meet_216 : dk_at b_Sf_meet 216 t_Sf_meet_216 := dk_go 1 a_Sf_meet_215 rfl
theorem a_Sf_meet_218 : dk_at b_Sf_meet 218 t_Sf_meet_218 := dk_go 2 a_Sf_meet_216 rfl
theorem a_Sf_meet_221 : dk_at b_Sf_meet 221 t_Sf_meet_221 := dk_go 3 a_Sf_meet_218 rfl
theorem a_Sf_meet_222 : dk_at b_Sf_meet 222 t_Sf_meet_222 := dk_go 1 a_Sf_meet_221 rfl
theorem a_Sf_meet_223 : dk_at b_Sf_meet 223 t_Sf_meet_223 := dk_go 1 a_Sf_meet_222 rfl
theorem a_Sf_meet_226 : dk_at b_Sf_meet 226 t_Sf_meet_226 := dk_go 3 a_Sf_meet_223 rfl
theorem a_Sf_meet_229 : dk_at b_Sf_meet 229 t_Sf_meet_229 := dk_go 3 a_Sf_meet_226 rfl
theorem a_Sf_meet_232 : dk_at b_Sf_meet 232 t_Sf_meet_232 := dk_go 3 a_Sf_meet_229 rfl
theorem a_Sf_meet_235 : dk_at b_Sf_meet 235 t_Sf_meet_235 := dk_go 3 a_Sf_meet_232 rfl
theorem a_Sf_meet_238 : dk_at b_Sf_meet 238 t_Sf_meet_238 := dk_go 3 a_Sf_meet_235 rfl
theorem a_Sf_meet_239 : dk_at b_Sf_meet 239 t_Sf_meet_239 := dk_go 1 a_Sf_meet_238 rfl
theorem a_Sf_meet_242 : dk_at b_Sf_meet 242 t_Sf_meet_242 := dk_go 3 a_Sf_meet_239 rfl
theorem a_Sf_meet_244 : dk_at b_Sf_meet 244 t_Sf_meet_244 := dk_go 2 a_Sf_meet_242 rfl
theorem a_Sf_meet_247 : dk_at b_Sf_meet 247 t_Sf_meet_247 := dk_go 3 a_Sf_meet_244 rfl
theorem a_Sf_meet_248 : dk_at b_Sf_meet 248 t_Sf_meet_248 := dk_go 1 a_Sf_meet_247 rfl
theorem a_Sf_meet_251 : dk_at b_Sf_meet 251 t_Sf_meet_251 := dk_go 3 a_Sf_meet_248 rfl
theorem a_Sf_meet_252 : dk_at b_Sf_meet 252 t_Sf_meet_252 := dk_go 1 a_Sf_meet_251 rfl
theorem d_Sf_meet_0 : decode b_Sf_meet 0 = .ok (.aload_n 0, 1) := dk_0 a_Sf_meet_0 (dko_42 _)
theorem d_Sf_meet_1 : decode b_Sf_meet 1 = .ok (.bipush 44, 2) := dk_S1 a_Sf_meet_1 (dko_16 _) (by decide +kernel)
theorem d_Sf_meet_3 : decode b_Sf_meet 3 = .ok (.putfield 104, 3) := dk_U2 a_Sf_meet_3 (dko_181 _) rfl
theorem d_Sf_meet_6 : decode b_Sf_meet 6 = .ok (.iconst 1, 1) := dk_0 a_Sf_meet_6 (dko_4 _)
theorem d_Sf_meet_7 : decode b_Sf_meet 7 = .ok (.istore_n 1, 1) := dk_0 a_Sf_meet_7 (dko_60 _)
theorem d_Sf_meet_8 : decode b_Sf_meet 8 = .ok (.iload_n 1, 1) := dk_0 a_Sf_meet_8 (dko_27 _)
theorem d_Sf_meet_9 : decode b_Sf_meet 9 = .ok (.bipush 14, 2) := dk_S1 a_Sf_meet_9 (dko_16 _) (by decide +kernel)
theorem d_Sf_meet_11 : decode b_Sf_meet 11 = .ok (.if_icmp .gt 227, 3) := dk_S2 a_Sf_meet_11 (dko_163 _) (by decide +kernel)
theorem d_Sf_meet_14 : decode b_Sf_meet 14 = .ok (.aload_n 0, 1) := dk_0 a_Sf_meet_14 (dko_42 _)
theorem d_Sf_meet_15 : decode b_Sf_meet 15 = .ok (.getfield 19, 3) := dk_U2 a_Sf_meet_15 (dko_180 _) rfl
theorem d_Sf_meet_18 : decode b_Sf_meet 18 = .ok (.iload_n 1, 1) := dk_0 a_Sf_meet_18 (dko_27 _)
theorem d_Sf_meet_19 : decode b_Sf_meet 19 = .ok (.aload_n 0, 1) := dk_0 a_Sf_meet_19 (dko_42 _)
theorem d_Sf_meet_20 : decode b_Sf_meet 20 = .ok (.getfield 9, 3) := dk_U2 a_Sf_meet_20 (dko_180 _) rfl
theorem d_Sf_meet_23 : decode b_Sf_meet 23 = .ok (.iload_n 1, 1) := dk_0 a_Sf_meet_23 (dko_27 _)
theorem d_Sf_meet_24 : decode b_Sf_meet 24 = .ok (.laload, 1) := dk_0 a_Sf_meet_24 (dko_47 _)
theorem d_Sf_meet_25 : decode b_Sf_meet 25 = .ok (.lastore, 1) := dk_0 a_Sf_meet_25 (dko_80 _)
theorem d_Sf_meet_26 : decode b_Sf_meet 26 = .ok (.aload_n 0, 1) := dk_0 a_Sf_meet_26 (dko_42 _)
theorem d_Sf_meet_27 : decode b_Sf_meet 27 = .ok (.getfield 15, 3) := dk_U2 a_Sf_meet_27 (dko_180 _) rfl
theorem d_Sf_meet_30 : decode b_Sf_meet 30 = .ok (.iload_n 1, 1) := dk_0 a_Sf_meet_30 (dko_27 _)
theorem d_Sf_meet_31 : decode b_Sf_meet 31 = .ok (.iaload, 1) := dk_0 a_Sf_meet_31 (dko_46 _)
theorem d_Sf_meet_32 : decode b_Sf_meet 32 = .ok (.ifCond .ne 7, 3) := dk_S2 a_Sf_meet_32 (dko_154 _) (by decide +kernel)
theorem d_Sf_meet_35 : decode b_Sf_meet 35 = .ok (.lconst 0, 1) := dk_0 a_Sf_meet_35 (dko_9 _)
theorem d_Sf_meet_36 : decode b_Sf_meet 36 = .ok (.goto 9, 3) := dk_S2 a_Sf_meet_36 (dko_167 _) (by decide +kernel)
theorem d_Sf_meet_39 : decode b_Sf_meet 39 = .ok (.aload_n 0, 1) := dk_0 a_Sf_meet_39 (dko_42 _)
theorem d_Sf_meet_40 : decode b_Sf_meet 40 = .ok (.getfield 9, 3) := dk_U2 a_Sf_meet_40 (dko_180 _) rfl
theorem d_Sf_meet_43 : decode b_Sf_meet 43 = .ok (.iload_n 1, 1) := dk_0 a_Sf_meet_43 (dko_27 _)
theorem d_Sf_meet_44 : decode b_Sf_meet 44 = .ok (.laload, 1) := dk_0 a_Sf_meet_44 (dko_47 _)
theorem d_Sf_meet_45 : decode b_Sf_meet 45 = .ok (.lstore_n 2, 1) := dk_0 a_Sf_meet_45 (dko_65 _)
theorem d_Sf_meet_46 : decode b_Sf_meet 46 = .ok (.iconst 0, 1) := dk_0 a_Sf_meet_46 (dko_3 _)
theorem d_Sf_meet_47 : decode b_Sf_meet 47 = .ok (.istore 4, 2) := dk_U1 a_Sf_meet_47 (dko_54 _) rfl
theorem d_Sf_meet_49 : decode b_Sf_meet 49 = .ok (.iload 4, 2) := dk_U1 a_Sf_meet_49 (dko_21 _) rfl
theorem d_Sf_meet_51 : decode b_Sf_meet 51 = .ok (.bipush 44, 2) := dk_S1 a_Sf_meet_51 (dko_16 _) (by decide +kernel)
theorem d_Sf_meet_53 : decode b_Sf_meet 53 = .ok (.if_icmp .ge 60, 3) := dk_S2 a_Sf_meet_53 (dko_162 _) (by decide +kernel)
theorem d_Sf_meet_56 : decode b_Sf_meet 56 = .ok (.lload_n 2, 1) := dk_0 a_Sf_meet_56 (dko_32 _)
theorem d_Sf_meet_57 : decode b_Sf_meet 57 = .ok (.lconst 0, 1) := dk_0 a_Sf_meet_57 (dko_9 _)
theorem d_Sf_meet_58 : decode b_Sf_meet 58 = .ok (.lcmp, 1) := dk_0 a_Sf_meet_58 (dko_148 _)
theorem d_Sf_meet_59 : decode b_Sf_meet 59 = .ok (.ifCond .eq 54, 3) := dk_S2 a_Sf_meet_59 (dko_153 _) (by decide +kernel)
theorem d_Sf_meet_62 : decode b_Sf_meet 62 = .ok (.aload_n 0, 1) := dk_0 a_Sf_meet_62 (dko_42 _)
theorem d_Sf_meet_63 : decode b_Sf_meet 63 = .ok (.getfield 22, 3) := dk_U2 a_Sf_meet_63 (dko_180 _) rfl
theorem d_Sf_meet_66 : decode b_Sf_meet 66 = .ok (.lload_n 2, 1) := dk_0 a_Sf_meet_66 (dko_32 _)
theorem d_Sf_meet_67 : decode b_Sf_meet 67 = .ok (.invokestatic 107, 3) := dk_U2 a_Sf_meet_67 (dko_184 _) rfl
theorem d_Sf_meet_70 : decode b_Sf_meet 70 = .ok (.bipush 44, 2) := dk_S1 a_Sf_meet_70 (dko_16 _) (by decide +kernel)
theorem d_Sf_meet_72 : decode b_Sf_meet 72 = .ok (.irem, 1) := dk_0 a_Sf_meet_72 (dko_112 _)
theorem d_Sf_meet_73 : decode b_Sf_meet 73 = .ok (.laload, 1) := dk_0 a_Sf_meet_73 (dko_47 _)
theorem d_Sf_meet_74 : decode b_Sf_meet 74 = .ok (.aload_n 0, 1) := dk_0 a_Sf_meet_74 (dko_42 _)
theorem d_Sf_meet_75 : decode b_Sf_meet 75 = .ok (.getfield 19, 3) := dk_U2 a_Sf_meet_75 (dko_180 _) rfl
theorem d_Sf_meet_78 : decode b_Sf_meet 78 = .ok (.iload_n 1, 1) := dk_0 a_Sf_meet_78 (dko_27 _)
theorem d_Sf_meet_79 : decode b_Sf_meet 79 = .ok (.laload, 1) := dk_0 a_Sf_meet_79 (dko_47 _)
theorem d_Sf_meet_80 : decode b_Sf_meet 80 = .ok (.ldc2_w 113, 3) := dk_U2 a_Sf_meet_80 (dko_20 _) rfl
theorem d_Sf_meet_83 : decode b_Sf_meet 83 = .ok (.lxor, 1) := dk_0 a_Sf_meet_83 (dko_131 _)
theorem d_Sf_meet_84 : decode b_Sf_meet 84 = .ok (.land, 1) := dk_0 a_Sf_meet_84 (dko_127 _)
theorem d_Sf_meet_85 : decode b_Sf_meet 85 = .ok (.lstore 5, 2) := dk_U1 a_Sf_meet_85 (dko_55 _) rfl
theorem d_Sf_meet_87 : decode b_Sf_meet 87 = .ok (.lload_n 2, 1) := dk_0 a_Sf_meet_87 (dko_32 _)
theorem d_Sf_meet_88 : decode b_Sf_meet 88 = .ok (.lload_n 2, 1) := dk_0 a_Sf_meet_88 (dko_32 _)
theorem d_Sf_meet_89 : decode b_Sf_meet 89 = .ok (.lconst 1, 1) := dk_0 a_Sf_meet_89 (dko_10 _)
theorem d_Sf_meet_90 : decode b_Sf_meet 90 = .ok (.lsub, 1) := dk_0 a_Sf_meet_90 (dko_101 _)
theorem d_Sf_meet_91 : decode b_Sf_meet 91 = .ok (.land, 1) := dk_0 a_Sf_meet_91 (dko_127 _)
theorem d_Sf_meet_92 : decode b_Sf_meet 92 = .ok (.lload 5, 2) := dk_U1 a_Sf_meet_92 (dko_22 _) rfl
theorem d_Sf_meet_94 : decode b_Sf_meet 94 = .ok (.lor, 1) := dk_0 a_Sf_meet_94 (dko_129 _)
theorem d_Sf_meet_95 : decode b_Sf_meet 95 = .ok (.lstore_n 2, 1) := dk_0 a_Sf_meet_95 (dko_65 _)
theorem d_Sf_meet_96 : decode b_Sf_meet 96 = .ok (.aload_n 0, 1) := dk_0 a_Sf_meet_96 (dko_42 _)
theorem d_Sf_meet_97 : decode b_Sf_meet 97 = .ok (.getfield 19, 3) := dk_U2 a_Sf_meet_97 (dko_180 _) rfl
theorem d_Sf_meet_100 : decode b_Sf_meet 100 = .ok (.iload_n 1, 1) := dk_0 a_Sf_meet_100 (dko_27 _)
theorem d_Sf_meet_101 : decode b_Sf_meet 101 = .ok (.dup2, 1) := dk_0 a_Sf_meet_101 (dko_92 _)
theorem d_Sf_meet_102 : decode b_Sf_meet 102 = .ok (.laload, 1) := dk_0 a_Sf_meet_102 (dko_47 _)
theorem d_Sf_meet_103 : decode b_Sf_meet 103 = .ok (.lload 5, 2) := dk_U1 a_Sf_meet_103 (dko_22 _) rfl
theorem d_Sf_meet_105 : decode b_Sf_meet 105 = .ok (.lor, 1) := dk_0 a_Sf_meet_105 (dko_129 _)
theorem d_Sf_meet_106 : decode b_Sf_meet 106 = .ok (.lastore, 1) := dk_0 a_Sf_meet_106 (dko_80 _)
theorem d_Sf_meet_107 : decode b_Sf_meet 107 = .ok (.iinc 4 1, 3) := dk_US a_Sf_meet_107 (dko_132 _) (by decide +kernel)
theorem d_Sf_meet_110 : decode b_Sf_meet 110 = .ok (.goto (-61), 3) := dk_S2 a_Sf_meet_110 (dko_167 _) (by decide +kernel)
theorem d_Sf_meet_113 : decode b_Sf_meet 113 = .ok (.iconst 1, 1) := dk_0 a_Sf_meet_113 (dko_4 _)
theorem d_Sf_meet_114 : decode b_Sf_meet 114 = .ok (.istore 4, 2) := dk_U1 a_Sf_meet_114 (dko_54 _) rfl
theorem d_Sf_meet_116 : decode b_Sf_meet 116 = .ok (.iload 4, 2) := dk_U1 a_Sf_meet_116 (dko_21 _) rfl
theorem d_Sf_meet_118 : decode b_Sf_meet 118 = .ok (.iload_n 1, 1) := dk_0 a_Sf_meet_118 (dko_27 _)
theorem d_Sf_meet_119 : decode b_Sf_meet 119 = .ok (.if_icmp .ge 113, 3) := dk_S2 a_Sf_meet_119 (dko_162 _) (by decide +kernel)
theorem d_Sf_meet_122 : decode b_Sf_meet 122 = .ok (.aload_n 0, 1) := dk_0 a_Sf_meet_122 (dko_42 _)
theorem d_Sf_meet_123 : decode b_Sf_meet 123 = .ok (.getfield 15, 3) := dk_U2 a_Sf_meet_123 (dko_180 _) rfl
theorem d_Sf_meet_126 : decode b_Sf_meet 126 = .ok (.iload_n 1, 1) := dk_0 a_Sf_meet_126 (dko_27 _)
theorem d_Sf_meet_127 : decode b_Sf_meet 127 = .ok (.iaload, 1) := dk_0 a_Sf_meet_127 (dko_46 _)
theorem d_Sf_meet_128 : decode b_Sf_meet 128 = .ok (.iload 4, 2) := dk_U1 a_Sf_meet_128 (dko_21 _) rfl
theorem d_Sf_meet_130 : decode b_Sf_meet 130 = .ok (.ishr, 1) := dk_0 a_Sf_meet_130 (dko_122 _)
theorem d_Sf_meet_131 : decode b_Sf_meet 131 = .ok (.iconst 1, 1) := dk_0 a_Sf_meet_131 (dko_4 _)
theorem d_Sf_meet_132 : decode b_Sf_meet 132 = .ok (.iand, 1) := dk_0 a_Sf_meet_132 (dko_126 _)
theorem d_Sf_meet_133 : decode b_Sf_meet 133 = .ok (.ifCond .eq 20, 3) := dk_S2 a_Sf_meet_133 (dko_153 _) (by decide +kernel)
theorem d_Sf_meet_136 : decode b_Sf_meet 136 = .ok (.aload_n 0, 1) := dk_0 a_Sf_meet_136 (dko_42 _)
theorem d_Sf_meet_137 : decode b_Sf_meet 137 = .ok (.getfield 19, 3) := dk_U2 a_Sf_meet_137 (dko_180 _) rfl
theorem d_Sf_meet_140 : decode b_Sf_meet 140 = .ok (.iload_n 1, 1) := dk_0 a_Sf_meet_140 (dko_27 _)
theorem d_Sf_meet_141 : decode b_Sf_meet 141 = .ok (.laload, 1) := dk_0 a_Sf_meet_141 (dko_47 _)
theorem d_Sf_meet_142 : decode b_Sf_meet 142 = .ok (.aload_n 0, 1) := dk_0 a_Sf_meet_142 (dko_42 _)
theorem d_Sf_meet_143 : decode b_Sf_meet 143 = .ok (.getfield 19, 3) := dk_U2 a_Sf_meet_143 (dko_180 _) rfl
theorem d_Sf_meet_146 : decode b_Sf_meet 146 = .ok (.iload 4, 2) := dk_U1 a_Sf_meet_146 (dko_21 _) rfl
theorem d_Sf_meet_148 : decode b_Sf_meet 148 = .ok (.laload, 1) := dk_0 a_Sf_meet_148 (dko_47 _)
theorem d_Sf_meet_149 : decode b_Sf_meet 149 = .ok (.land, 1) := dk_0 a_Sf_meet_149 (dko_127 _)
theorem d_Sf_meet_150 : decode b_Sf_meet 150 = .ok (.goto 4, 3) := dk_S2 a_Sf_meet_150 (dko_167 _) (by decide +kernel)
theorem d_Sf_meet_153 : decode b_Sf_meet 153 = .ok (.lconst 0, 1) := dk_0 a_Sf_meet_153 (dko_9 _)
theorem d_Sf_meet_154 : decode b_Sf_meet 154 = .ok (.lstore 5, 2) := dk_U1 a_Sf_meet_154 (dko_55 _) rfl
theorem d_Sf_meet_156 : decode b_Sf_meet 156 = .ok (.lload 5, 2) := dk_U1 a_Sf_meet_156 (dko_22 _) rfl
theorem d_Sf_meet_158 : decode b_Sf_meet 158 = .ok (.lconst 0, 1) := dk_0 a_Sf_meet_158 (dko_9 _)
theorem d_Sf_meet_159 : decode b_Sf_meet 159 = .ok (.lcmp, 1) := dk_0 a_Sf_meet_159 (dko_148 _)
theorem d_Sf_meet_160 : decode b_Sf_meet 160 = .ok (.ifCond .ne 8, 3) := dk_S2 a_Sf_meet_160 (dko_154 _) (by decide +kernel)
theorem d_Sf_meet_163 : decode b_Sf_meet 163 = .ok (.bipush 44, 2) := dk_S1 a_Sf_meet_163 (dko_16 _) (by decide +kernel)
theorem d_Sf_meet_165 : decode b_Sf_meet 165 = .ok (.goto 8, 3) := dk_S2 a_Sf_meet_165 (dko_167 _) (by decide +kernel)
theorem d_Sf_meet_168 : decode b_Sf_meet 168 = .ok (.lload 5, 2) := dk_U1 a_Sf_meet_168 (dko_22 _) rfl
theorem d_Sf_meet_170 : decode b_Sf_meet 170 = .ok (.invokestatic 107, 3) := dk_U2 a_Sf_meet_170 (dko_184 _) rfl
theorem d_Sf_meet_173 : decode b_Sf_meet 173 = .ok (.istore 7, 2) := dk_U1 a_Sf_meet_173 (dko_54 _) rfl
theorem d_Sf_meet_175 : decode b_Sf_meet 175 = .ok (.iload 7, 2) := dk_U1 a_Sf_meet_175 (dko_21 _) rfl
theorem d_Sf_meet_177 : decode b_Sf_meet 177 = .ok (.aload_n 0, 1) := dk_0 a_Sf_meet_177 (dko_42 _)
theorem d_Sf_meet_178 : decode b_Sf_meet 178 = .ok (.getfield 104, 3) := dk_U2 a_Sf_meet_178 (dko_180 _) rfl
theorem d_Sf_meet_181 : decode b_Sf_meet 181 = .ok (.if_icmp .lt 28, 3) := dk_S2 a_Sf_meet_181 (dko_161 _) (by decide +kernel)
theorem d_Sf_meet_184 : decode b_Sf_meet 184 = .ok (.iload 7, 2) := dk_U1 a_Sf_meet_184 (dko_21 _) rfl
theorem d_Sf_meet_186 : decode b_Sf_meet 186 = .ok (.aload_n 0, 1) := dk_0 a_Sf_meet_186 (dko_42 _)
theorem d_Sf_meet_187 : decode b_Sf_meet 187 = .ok (.getfield 104, 3) := dk_U2 a_Sf_meet_187 (dko_180 _) rfl
theorem d_Sf_meet_190 : decode b_Sf_meet 190 = .ok (.if_icmp .ne 36, 3) := dk_S2 a_Sf_meet_190 (dko_160 _) (by decide +kernel)
theorem d_Sf_meet_193 : decode b_Sf_meet 193 = .ok (.iload 7, 2) := dk_U1 a_Sf_meet_193 (dko_21 _) rfl
theorem d_Sf_meet_195 : decode b_Sf_meet 195 = .ok (.bipush 44, 2) := dk_S1 a_Sf_meet_195 (dko_16 _) (by decide +kernel)
theorem d_Sf_meet_197 : decode b_Sf_meet 197 = .ok (.if_icmp .ge 29, 3) := dk_S2 a_Sf_meet_197 (dko_162 _) (by decide +kernel)
theorem d_Sf_meet_200 : decode b_Sf_meet 200 = .ok (.iload 4, 2) := dk_U1 a_Sf_meet_200 (dko_21 _) rfl
theorem d_Sf_meet_202 : decode b_Sf_meet 202 = .ok (.aload_n 0, 1) := dk_0 a_Sf_meet_202 (dko_42 _)
theorem d_Sf_meet_203 : decode b_Sf_meet 203 = .ok (.getfield 115, 3) := dk_U2 a_Sf_meet_203 (dko_180 _) rfl
theorem d_Sf_meet_206 : decode b_Sf_meet 206 = .ok (.if_icmp .ge 20, 3) := dk_S2 a_Sf_meet_206 (dko_162 _) (by decide +kernel)
theorem d_Sf_meet_209 : decode b_Sf_meet 209 = .ok (.aload_n 0, 1) := dk_0 a_Sf_meet_209 (dko_42 _)
theorem d_Sf_meet_210 : decode b_Sf_meet 210 = .ok (.iload 7, 2) := dk_U1 a_Sf_meet_210 (dko_21 _) rfl
theorem d_Sf_meet_212 : decode b_Sf_meet 212 = .ok (.putfield 104, 3) := dk_U2 a_Sf_meet_212 (dko_181 _) rfl
theorem d_Sf_meet_215 : decode b_Sf_meet 215 = .ok (.aload_n 0, 1) := dk_0 a_Sf_meet_215 (dko_42 _)
theorem d_Sf_meet_216 : decode b_Sf_meet 216 = .ok (.iload 4, 2) := dk_U1 a_Sf_meet_216 (dko_21 _) rfl
theorem d_Sf_meet_218 : decode b_Sf_meet 218 = .ok (.putfield 115, 3) := dk_U2 a_Sf_meet_218 (dko_181 _) rfl
theorem d_Sf_meet_221 : decode b_Sf_meet 221 = .ok (.aload_n 0, 1) := dk_0 a_Sf_meet_221 (dko_42 _)
theorem d_Sf_meet_222 : decode b_Sf_meet 222 = .ok (.iload_n 1, 1) := dk_0 a_Sf_meet_222 (dko_27 _)
theorem d_Sf_meet_223 : decode b_Sf_meet 223 = .ok (.putfield 118, 3) := dk_U2 a_Sf_meet_223 (dko_181 _) rfl
theorem d_Sf_meet_226 : decode b_Sf_meet 226 = .ok (.iinc 4 1, 3) := dk_US a_Sf_meet_226 (dko_132 _) (by decide +kernel)
theorem d_Sf_meet_229 : decode b_Sf_meet 229 = .ok (.goto (-113), 3) := dk_S2 a_Sf_meet_229 (dko_167 _) (by decide +kernel)
theorem d_Sf_meet_232 : decode b_Sf_meet 232 = .ok (.iinc 1 1, 3) := dk_US a_Sf_meet_232 (dko_132 _) (by decide +kernel)
theorem d_Sf_meet_235 : decode b_Sf_meet 235 = .ok (.goto (-227), 3) := dk_S2 a_Sf_meet_235 (dko_167 _) (by decide +kernel)
theorem d_Sf_meet_238 : decode b_Sf_meet 238 = .ok (.aload_n 0, 1) := dk_0 a_Sf_meet_238 (dko_42 _)
theorem d_Sf_meet_239 : decode b_Sf_meet 239 = .ok (.getfield 104, 3) := dk_U2 a_Sf_meet_239 (dko_180 _) rfl
theorem d_Sf_meet_242 : decode b_Sf_meet 242 = .ok (.bipush 44, 2) := dk_S1 a_Sf_meet_242 (dko_16 _) (by decide +kernel)
theorem d_Sf_meet_244 : decode b_Sf_meet 244 = .ok (.if_icmp .ge 7, 3) := dk_S2 a_Sf_meet_244 (dko_162 _) (by decide +kernel)
theorem d_Sf_meet_247 : decode b_Sf_meet 247 = .ok (.iconst 1, 1) := dk_0 a_Sf_meet_247 (dko_4 _)
theorem d_Sf_meet_248 : decode b_Sf_meet 248 = .ok (.goto 4, 3) := dk_S2 a_Sf_meet_248 (dko_167 _) (by decide +kernel)
theorem d_Sf_meet_251 : decode b_Sf_meet 251 = .ok (.iconst 0, 1) := dk_0 a_Sf_meet_251 (dko_3 _)
theorem d_Sf_meet_252 : decode b_Sf_meet 252 = .ok (.ireturn, 1) := dk_0 a_Sf_meet_252 (dko_172 _)
set_option maxHeartbeats 4000000 in
set_option maxRecDepth 100000 in
theorem ok_Sf_meet (pc : Nat) : OpS mt mi_Sf_meet pc (cs_Sf_meet pc) := (os_n (os_n (os_n (os_n (os_n (os_n (os_n (os_l (so_aload_n d_Sf_meet_0 rfl)) (os_l (so_bipush d_Sf_meet_1 (by decide)))) (os_n (os_l (so_putI (C := R_Sf) (T := F_Sf) (N := 10) (j := 7) in_Sf t_Sf_ok n_Sf rfl (by decide) mw_290 rfl (by decide +kernel) d_Sf_meet_3)) (os_l (so_iconst d_Sf_meet_6 (by decide))))) (os_n (os_n (os_l (so_istore_n d_Sf_meet_7 rfl (by decide))) (os_l (so_iload_n d_Sf_meet_8 rfl))) (os_n (os_l (so_bipush d_Sf_meet_9 (by decide))) (os_l (so_icgt d_Sf_meet_11 (by decide)))))) (os_n (os_n (os_n (os_l (so_aload_n d_Sf_meet_14 rfl)) (os_l (so_get (C := R_Sf) (T := F_Sf) (N := 10) (j := 4) in_Sf rfl (by decide) mw_286 d_Sf_meet_15))) (os_n (os_l (so_iload_n d_Sf_meet_18 rfl)) (os_l (so_aload_n d_Sf_meet_19 rfl)))) (os_n (os_n (os_l (so_get (C := R_Sf) (T := F_Sf) (N := 10) (j := 2) in_Sf rfl (by decide) mw_284 d_Sf_meet_20)) (os_l (so_iload_n d_Sf_meet_23 rfl))) (os_n (os_l (so_laload d_Sf_meet_24)) (os_n (os_l (so_lastore d_Sf_meet_25)) (os_l (so_aload_n d_Sf_meet_26 rfl))))))) (os_n (os_n (os_n (os_n (os_l (so_get (C := R_Sf) (T := F_Sf) (N := 10) (j := 3) in_Sf rfl (by decide) mw_285 d_Sf_meet_27)) (os_l (so_iload_n d_Sf_meet_30 rfl))) (os_n (os_l (so_iaload d_Sf_meet_31)) (os_l (so_ifne d_Sf_meet_32 (by decide))))) (os_n (os_n (os_l (so_lconst d_Sf_meet_35 (by decide))) (os_l (so_goto d_Sf_meet_36 (by decide)))) (os_n (os_l (so_aload_n d_Sf_meet_39 rfl)) (os_n (os_l (so_get (C := R_Sf) (T := F_Sf) (N := 10) (j := 2) in_Sf rfl (by decide) mw_284 d_Sf_meet_40)) (os_l (so_iload_n d_Sf_meet_43 rfl)))))) (os_n (os_n (os_n (os_l (so_laload d_Sf_meet_44)) (os_l (so_lstore_n d_Sf_meet_45 rfl (by decide)))) (os_n (os_l (so_iconst d_Sf_meet_46 (by decide))) (os_l (so_istore d_Sf_meet_47 (by decide))))) (os_n (os_n (os_l (so_iload d_Sf_meet_49)) (os_l (so_bipush d_Sf_meet_51 (by decide)))) (os_n (os_l (so_icge d_Sf_meet_53 (by decide))) (os_n (os_l (so_lload_n d_Sf_meet_56 rfl)) (os_l (so_lconst d_Sf_meet_57 (by decide))))))))) (os_n (os_n (os_n (os_n (os_n (os_l (so_lcmp d_Sf_meet_58)) (os_l (so_ifeq d_Sf_meet_59 (by decide)))) (os_n (os_l (so_aload_n d_Sf_meet_62 rfl)) (os_l (so_get (C := R_Sf) (T := F_Sf) (N := 10) (j := 5) in_Sf rfl (by decide) mw_287 d_Sf_meet_63)))) (os_n (os_n (os_l (so_lload_n d_Sf_meet_66 rfl)) (os_l (so_callS (iv := mi_Lo_numberOfTrailingZeros) rfl mw_1114 mw_1115 mw_22 mw_1116 ⟨by decide +kernel, by decide +kernel, by decide +kernel⟩ (by decide) d_Sf_meet_67))) (os_n (os_l (so_bipush d_Sf_meet_70 (by decide))) (os_l (so_irem d_Sf_meet_72))))) (os_n (os_n (os_n (os_l (so_laload d_Sf_meet_73)) (os_l (so_aload_n d_Sf_meet_74 rfl))) (os_n (os_l (so_get (C := R_Sf) (T := F_Sf) (N := 10) (j := 4) in_Sf rfl (by decide) mw_286 d_Sf_meet_75)) (os_l (so_iload_n d_Sf_meet_78 rfl)))) (os_n (os_n (os_l (so_laload d_Sf_meet_79)) (os_l (so_ldc2 mw_1121 d_Sf_meet_80))) (os_n (os_l (so_lxor d_Sf_meet_83)) (os_n (os_l (so_land d_Sf_meet_84)) (os_l (so_lstore d_Sf_meet_85 (by decide)))))))) (os_n (os_n (os_n (os_n (os_l (so_lload_n d_Sf_meet_87 rfl)) (os_l (so_lload_n d_Sf_meet_88 rfl))) (os_n (os_l (so_lconst d_Sf_meet_89 (by decide))) (os_l (so_lsub d_Sf_meet_90)))) (os_n (os_n (os_l (so_land d_Sf_meet_91)) (os_l (so_lload d_Sf_meet_92))) (os_n (os_l (so_lor d_Sf_meet_94)) (os_n (os_l (so_lstore_n d_Sf_meet_95 rfl (by decide))) (os_l (so_aload_n d_Sf_meet_96 rfl)))))) (os_n (os_n (os_n (os_l (so_get (C := R_Sf) (T := F_Sf) (N := 10) (j := 4) in_Sf rfl (by decide) mw_286 d_Sf_meet_97)) (os_l (so_iload_n d_Sf_meet_100 rfl))) (os_n (os_l (so_dup2 d_Sf_meet_101)) (os_l (so_laload d_Sf_meet_102)))) (os_n (os_n (os_l (so_lload d_Sf_meet_103)) (os_l (so_lor d_Sf_meet_105))) (os_n (os_l (so_lastore d_Sf_meet_106)) (os_n (os_l (so_iinc d_Sf_meet_107 (by decide) (by decide))) (os_l (so_goto d_Sf_meet_110 (by decide)))))))))) (os_n (os_n (os_n (os_n (os_n (os_n (os_l (so_iconst d_Sf_meet_113 (by decide))) (os_l (so_istore d_Sf_meet_114 (by decide)))) (os_n (os_l (so_iload d_Sf_meet_116)) (os_l (so_iload_n d_Sf_meet_118 rfl)))) (os_n (os_n (os_l (so_icge d_Sf_meet_119 (by decide))) (os_l (so_aload_n d_Sf_meet_122 rfl))) (os_n (os_l (so_get (C := R_Sf) (T := F_Sf) (N := 10) (j := 3) in_Sf rfl (by decide) mw_285 d_Sf_meet_123)) (os_l (so_iload_n d_Sf_meet_126 rfl))))) (os_n (os_n (os_n (os_l (so_iaload d_Sf_meet_127)) (os_l (so_iload d_Sf_meet_128))) (os_n (os_l (so_ishr d_Sf_meet_130)) (os_l (so_iconst d_Sf_meet_131 (by decide))))) (os_n (os_n (os_l (so_iand d_Sf_meet_132)) (os_l (so_ifeq d_Sf_meet_133 (by decide)))) (os_n (os_l (so_aload_n d_Sf_meet_136 rfl)) (os_n (os_l (so_get (C := R_Sf) (T := F_Sf) (N := 10) (j := 4) in_Sf rfl (by decide) mw_286 d_Sf_meet_137)) (os_l (so_iload_n d_Sf_meet_140 rfl))))))) (os_n (os_n (os_n (os_n (os_l (so_laload d_Sf_meet_141)) (os_l (so_aload_n d_Sf_meet_142 rfl))) (os_n (os_l (so_get (C := R_Sf) (T := F_Sf) (N := 10) (j := 4) in_Sf rfl (by decide) mw_286 d_Sf_meet_143)) (os_l (so_iload d_Sf_meet_146)))) (os_n (os_n (os_l (so_laload d_Sf_meet_148)) (os_l (so_land d_Sf_meet_149))) (os_n (os_l (so_goto d_Sf_meet_150 (by decide))) (os_n (os_l (so_lconst d_Sf_meet_153 (by decide))) (os_l (so_lstore d_Sf_meet_154 (by decide))))))) (os_n (os_n (os_n (os_l (so_lload d_Sf_meet_156)) (os_l (so_lconst d_Sf_meet_158 (by decide)))) (os_n (os_l (so_lcmp d_Sf_meet_159)) (os_l (so_ifne d_Sf_meet_160 (by decide))))) (os_n (os_n (os_l (so_bipush d_Sf_meet_163 (by decide))) (os_l (so_goto d_Sf_meet_165 (by decide)))) (os_n (os_l (so_lload d_Sf_meet_168)) (os_n (os_l (so_callS (iv := mi_Lo_numberOfTrailingZeros) rfl mw_1114 mw_1115 mw_22 mw_1116 ⟨by decide +kernel, by decide +kernel, by decide +kernel⟩ (by decide) d_Sf_meet_170)) (os_l (so_istore d_Sf_meet_173 (by decide))))))))) (os_n (os_n (os_n (os_n (os_n (os_l (so_iload d_Sf_meet_175)) (os_l (so_aload_n d_Sf_meet_177 rfl))) (os_n (os_l (so_get (C := R_Sf) (T := F_Sf) (N := 10) (j := 7) in_Sf rfl (by decide) mw_290 d_Sf_meet_178)) (os_l (so_iclt d_Sf_meet_181 (by decide))))) (os_n (os_n (os_l (so_iload d_Sf_meet_184)) (os_l (so_aload_n d_Sf_meet_186 rfl))) (os_n (os_l (so_get (C := R_Sf) (T := F_Sf) (N := 10) (j := 7) in_Sf rfl (by decide) mw_290 d_Sf_meet_187)) (os_n (os_l (so_icne d_Sf_meet_190 (by decide))) (os_l (so_iload d_Sf_meet_193)))))) (os_n (os_n (os_n (os_l (so_bipush d_Sf_meet_195 (by decide))) (os_l (so_icge d_Sf_meet_197 (by decide)))) (os_n (os_l (so_iload d_Sf_meet_200)) (os_l (so_aload_n d_Sf_meet_202 rfl)))) (os_n (os_n (os_l (so_get (C := R_Sf) (T := F_Sf) (N := 10) (j := 8) in_Sf rfl (by decide) mw_292 d_Sf_meet_203)) (os_l (so_icge d_Sf_meet_206 (by decide)))) (os_n (os_l (so_aload_n d_Sf_meet_209 rfl)) (os_n (os_l (so_iload d_Sf_meet_210)) (os_l (so_putI (C := R_Sf) (T := F_Sf) (N := 10) (j := 7) in_Sf t_Sf_ok n_Sf rfl (by decide) mw_290 rfl (by decide +kernel) d_Sf_meet_212))))))) (os_n (os_n (os_n (os_n (os_l (so_aload_n d_Sf_meet_215 rfl)) (os_l (so_iload d_Sf_meet_216))) (os_n (os_l (so_putI (C := R_Sf) (T := F_Sf) (N := 10) (j := 8) in_Sf t_Sf_ok n_Sf rfl (by decide) mw_292 rfl (by decide +kernel) d_Sf_meet_218)) (os_l (so_aload_n d_Sf_meet_221 rfl)))) (os_n (os_n (os_l (so_iload_n d_Sf_meet_222 rfl)) (os_l (so_putI (C := R_Sf) (T := F_Sf) (N := 10) (j := 9) in_Sf t_Sf_ok n_Sf rfl (by decide) mw_294 rfl (by decide +kernel) d_Sf_meet_223))) (os_n (os_l (so_iinc d_Sf_meet_226 (by decide) (by decide))) (os_n (os_l (so_goto d_Sf_meet_229 (by decide))) (os_l (so_iinc d_Sf_meet_232 (by decide) (by decide))))))) (os_n (os_n (os_n (os_l (so_goto d_Sf_meet_235 (by decide))) (os_l (so_aload_n d_Sf_meet_238 rfl))) (os_n (os_l (so_get (C := R_Sf) (T := F_Sf) (N := 10) (j := 7) in_Sf rfl (by decide) mw_290 d_Sf_meet_239)) (os_l (so_bipush d_Sf_meet_242 (by decide))))) (os_n (os_n (os_l (so_icge d_Sf_meet_244 (by decide))) (os_l (so_iconst d_Sf_meet_247 (by decide)))) (os_n (os_l (so_goto d_Sf_meet_248 (by decide))) (os_n (os_l (so_iconst d_Sf_meet_251 (by decide))) (os_l (so_zreturn rfl d_Sf_meet_252))))))))))
abbrev t_Sf_link_228 : List UInt8 := 177 :: []
abbrev t_Sf_link_225 : List UInt8 := 167 :: 255 :: 50 :: t_Sf_link_228
abbrev t_Sf_link_222 : List UInt8 := 132 :: 4 :: 1 :: t_Sf_link_225
abbrev t_Sf_link_219 : List UInt8 := 167 :: 255 :: 197 :: t_Sf_link_222
abbrev t_Sf_link_216 : List UInt8 := 132 :: 9 :: 1 :: t_Sf_link_219
abbrev t_Sf_link_215 : List UInt8 := 80 :: t_Sf_link_216
abbrev t_Sf_link_214 : List UInt8 := 129 :: t_Sf_link_215
abbrev t_Sf_link_213 : List UInt8 := 121 :: t_Sf_link_214
abbrev t_Sf_link_212 : List UInt8 := 96 :: t_Sf_link_213
abbrev t_Sf_link_211 : List UInt8 := 122 :: t_Sf_link_212
abbrev t_Sf_link_210 : List UInt8 := 4 :: t_Sf_link_211
abbrev t_Sf_link_208 : List UInt8 := 21 :: 10 :: t_Sf_link_210
abbrev t_Sf_link_205 : List UInt8 := 180 :: 0 :: 66 :: t_Sf_link_208
abbrev t_Sf_link_204 : List UInt8 := 45 :: t_Sf_link_205
abbrev t_Sf_link_203 : List UInt8 := 10 :: t_Sf_link_204
abbrev t_Sf_link_202 : List UInt8 := 47 :: t_Sf_link_203
abbrev t_Sf_link_201 : List UInt8 := 92 :: t_Sf_link_202
abbrev t_Sf_link_199 : List UInt8 := 21 :: 6 :: t_Sf_link_201
abbrev t_Sf_link_196 : List UInt8 := 180 :: 0 :: 22 :: t_Sf_link_199
abbrev t_Sf_link_195 : List UInt8 := 42 :: t_Sf_link_196
abbrev t_Sf_link_192 : List UInt8 := 155 :: 0 :: 24 :: t_Sf_link_195
abbrev t_Sf_link_190 : List UInt8 := 21 :: 10 :: t_Sf_link_192
abbrev t_Sf_link_187 : List UInt8 := 153 :: 0 :: 29 :: t_Sf_link_190
abbrev t_Sf_link_186 : List UInt8 := 126 :: t_Sf_link_187
abbrev t_Sf_link_185 : List UInt8 := 4 :: t_Sf_link_186
abbrev t_Sf_link_184 : List UInt8 := 122 :: t_Sf_link_185
abbrev t_Sf_link_182 : List UInt8 := 21 :: 9 :: t_Sf_link_184
abbrev t_Sf_link_180 : List UInt8 := 21 :: 8 :: t_Sf_link_182
abbrev t_Sf_link_178 : List UInt8 := 54 :: 10 :: t_Sf_link_180
abbrev t_Sf_link_177 : List UInt8 := 46 :: t_Sf_link_178
abbrev t_Sf_link_176 : List UInt8 := 96 :: t_Sf_link_177
abbrev t_Sf_link_174 : List UInt8 := 21 :: 9 :: t_Sf_link_176
abbrev t_Sf_link_173 : List UInt8 := 104 :: t_Sf_link_174
abbrev t_Sf_link_172 : List UInt8 := 7 :: t_Sf_link_173
abbrev t_Sf_link_170 : List UInt8 := 21 :: 5 :: t_Sf_link_172
abbrev t_Sf_link_167 : List UInt8 := 180 :: 0 :: 127 :: t_Sf_link_170
abbrev t_Sf_link_166 : List UInt8 := 45 :: t_Sf_link_167
abbrev t_Sf_link_163 : List UInt8 := 162 :: 0 :: 59 :: t_Sf_link_166
abbrev t_Sf_link_162 : List UInt8 := 7 :: t_Sf_link_163
abbrev t_Sf_link_160 : List UInt8 := 21 :: 9 :: t_Sf_link_162
abbrev t_Sf_link_158 : List UInt8 := 54 :: 9 :: t_Sf_link_160
abbrev t_Sf_link_157 : List UInt8 := 3 :: t_Sf_link_158
abbrev t_Sf_link_155 : List UInt8 := 54 :: 8 :: t_Sf_link_157
abbrev t_Sf_link_154 : List UInt8 := 126 :: t_Sf_link_155
abbrev t_Sf_link_152 : List UInt8 := 16 :: 15 :: t_Sf_link_154
abbrev t_Sf_link_151 : List UInt8 := 122 :: t_Sf_link_152
abbrev t_Sf_link_150 : List UInt8 := 104 :: t_Sf_link_151
abbrev t_Sf_link_149 : List UInt8 := 46 :: t_Sf_link_150
abbrev t_Sf_link_147 : List UInt8 := 21 :: 4 :: t_Sf_link_149
abbrev t_Sf_link_144 : List UInt8 := 180 :: 0 :: 124 :: t_Sf_link_147
abbrev t_Sf_link_143 : List UInt8 := 45 :: t_Sf_link_144
abbrev t_Sf_link_142 : List UInt8 := 7 :: t_Sf_link_143
abbrev t_Sf_link_140 : List UInt8 := 21 :: 7 :: t_Sf_link_142
abbrev t_Sf_link_137 : List UInt8 := 167 :: 0 :: 5 :: t_Sf_link_140
abbrev t_Sf_link_136 : List UInt8 := 28 :: t_Sf_link_137
abbrev t_Sf_link_133 : List UInt8 := 160 :: 0 :: 7 :: t_Sf_link_136
abbrev t_Sf_link_132 : List UInt8 := 27 :: t_Sf_link_133
abbrev t_Sf_link_130 : List UInt8 := 21 :: 5 :: t_Sf_link_132
abbrev t_Sf_link_128 : List UInt8 := 54 :: 7 :: t_Sf_link_130
abbrev t_Sf_link_127 : List UInt8 := 46 :: t_Sf_link_128
abbrev t_Sf_link_126 : List UInt8 := 96 :: t_Sf_link_127
abbrev t_Sf_link_125 : List UInt8 := 46 :: t_Sf_link_126
abbrev t_Sf_link_123 : List UInt8 := 21 :: 5 :: t_Sf_link_125
abbrev t_Sf_link_120 : List UInt8 := 180 :: 0 :: 81 :: t_Sf_link_123
abbrev t_Sf_link_117 : List UInt8 := 180 :: 0 :: 25 :: t_Sf_link_120
abbrev t_Sf_link_116 : List UInt8 := 42 :: t_Sf_link_117
abbrev t_Sf_link_115 : List UInt8 := 104 :: t_Sf_link_116
abbrev t_Sf_link_113 : List UInt8 := 16 :: 10 :: t_Sf_link_115
abbrev t_Sf_link_112 : List UInt8 := 46 :: t_Sf_link_113
abbrev t_Sf_link_110 : List UInt8 := 21 :: 5 :: t_Sf_link_112
abbrev t_Sf_link_107 : List UInt8 := 180 :: 0 :: 75 :: t_Sf_link_110
abbrev t_Sf_link_106 : List UInt8 := 45 :: t_Sf_link_107
abbrev t_Sf_link_103 : List UInt8 := 178 :: 0 :: 78 :: t_Sf_link_106
abbrev t_Sf_link_100 : List UInt8 := 155 :: 0 :: 122 :: t_Sf_link_103
abbrev t_Sf_link_98 : List UInt8 := 21 :: 5 :: t_Sf_link_100
abbrev t_Sf_link_95 : List UInt8 := 167 :: 0 :: 127 :: t_Sf_link_98
abbrev t_Sf_link_94 : List UInt8 := 80 :: t_Sf_link_95
abbrev t_Sf_link_93 : List UInt8 := 129 :: t_Sf_link_94
abbrev t_Sf_link_92 : List UInt8 := 121 :: t_Sf_link_93
abbrev t_Sf_link_90 : List UInt8 := 21 :: 5 :: t_Sf_link_92
abbrev t_Sf_link_89 : List UInt8 := 10 :: t_Sf_link_90
abbrev t_Sf_link_88 : List UInt8 := 47 :: t_Sf_link_89
abbrev t_Sf_link_87 : List UInt8 := 92 :: t_Sf_link_88
abbrev t_Sf_link_85 : List UInt8 := 21 :: 6 :: t_Sf_link_87
abbrev t_Sf_link_82 : List UInt8 := 180 :: 0 :: 22 :: t_Sf_link_85
abbrev t_Sf_link_81 : List UInt8 := 42 :: t_Sf_link_82
abbrev t_Sf_link_80 : List UInt8 := 80 :: t_Sf_link_81
abbrev t_Sf_link_79 : List UInt8 := 129 :: t_Sf_link_80
abbrev t_Sf_link_78 : List UInt8 := 121 :: t_Sf_link_79
abbrev t_Sf_link_76 : List UInt8 := 21 :: 6 :: t_Sf_link_78
abbrev t_Sf_link_75 : List UInt8 := 10 :: t_Sf_link_76
abbrev t_Sf_link_74 : List UInt8 := 47 :: t_Sf_link_75
abbrev t_Sf_link_73 : List UInt8 := 92 :: t_Sf_link_74
abbrev t_Sf_link_71 : List UInt8 := 21 :: 5 :: t_Sf_link_73
abbrev t_Sf_link_68 : List UInt8 := 180 :: 0 :: 22 :: t_Sf_link_71
abbrev t_Sf_link_67 : List UInt8 := 42 :: t_Sf_link_68
abbrev t_Sf_link_64 : List UInt8 := 160 :: 0 :: 34 :: t_Sf_link_67
abbrev t_Sf_link_62 : List UInt8 := 16 :: 9 :: t_Sf_link_64
abbrev t_Sf_link_61 : List UInt8 := 46 :: t_Sf_link_62
abbrev t_Sf_link_59 : List UInt8 := 21 :: 5 :: t_Sf_link_61
abbrev t_Sf_link_56 : List UInt8 := 180 :: 0 :: 75 :: t_Sf_link_59
abbrev t_Sf_link_55 : List UInt8 := 45 :: t_Sf_link_56
abbrev t_Sf_link_52 : List UInt8 := 155 :: 0 :: 46 :: t_Sf_link_55
abbrev t_Sf_link_50 : List UInt8 := 21 :: 5 :: t_Sf_link_52
abbrev t_Sf_link_48 : List UInt8 := 54 :: 6 :: t_Sf_link_50
abbrev t_Sf_link_47 : List UInt8 := 96 :: t_Sf_link_48
abbrev t_Sf_link_46 : List UInt8 := 122 :: t_Sf_link_47
abbrev t_Sf_link_45 : List UInt8 := 4 :: t_Sf_link_46
abbrev t_Sf_link_43 : List UInt8 := 21 :: 4 :: t_Sf_link_45
abbrev t_Sf_link_40 : List UInt8 := 180 :: 0 :: 66 :: t_Sf_link_43
abbrev t_Sf_link_39 : List UInt8 := 45 :: t_Sf_link_40
abbrev t_Sf_link_37 : List UInt8 := 54 :: 5 :: t_Sf_link_39
abbrev t_Sf_link_36 : List UInt8 := 46 :: t_Sf_link_37
abbrev t_Sf_link_34 : List UInt8 := 21 :: 4 :: t_Sf_link_36
abbrev t_Sf_link_31 : List UInt8 := 180 :: 0 :: 121 :: t_Sf_link_34
abbrev t_Sf_link_30 : List UInt8 := 45 :: t_Sf_link_31
abbrev t_Sf_link_27 : List UInt8 := 162 :: 0 :: 201 :: t_Sf_link_30
abbrev t_Sf_link_26 : List UInt8 := 104 :: t_Sf_link_27
abbrev t_Sf_link_23 : List UInt8 := 180 :: 0 :: 95 :: t_Sf_link_26
abbrev t_Sf_link_22 : List UInt8 := 45 :: t_Sf_link_23
abbrev t_Sf_link_21 : List UInt8 := 5 :: t_Sf_link_22
abbrev t_Sf_link_19 : List UInt8 := 21 :: 4 :: t_Sf_link_21
abbrev t_Sf_link_17 : List UInt8 := 54 :: 4 :: t_Sf_link_19
abbrev t_Sf_link_16 : List UInt8 := 3 :: t_Sf_link_17
abbrev t_Sf_link_13 : List UInt8 := 184 :: 0 :: 37 :: t_Sf_link_16
abbrev t_Sf_link_12 : List UInt8 := 9 :: t_Sf_link_13
abbrev t_Sf_link_9 : List UInt8 := 180 :: 0 :: 22 :: t_Sf_link_12
abbrev t_Sf_link_8 : List UInt8 := 42 :: t_Sf_link_9
abbrev t_Sf_link_7 : List UInt8 := 78 :: t_Sf_link_8
abbrev t_Sf_link_4 : List UInt8 := 180 :: 0 :: 60 :: t_Sf_link_7
abbrev t_Sf_link_1 : List UInt8 := 180 :: 0 :: 25 :: t_Sf_link_4
abbrev t_Sf_link_0 : List UInt8 := 42 :: t_Sf_link_1
theorem a_Sf_link_0 : dk_at b_Sf_link 0 t_Sf_link_0 := dk_start (by decide +kernel)
theorem a_Sf_link_1 : dk_at b_Sf_link 1 t_Sf_link_1 := dk_go 1 a_Sf_link_0 rfl
theorem a_Sf_link_4 : dk_at b_Sf_link 4 t_Sf_link_4 := dk_go 3 a_Sf_link_1 rfl
theorem a_Sf_link_7 : dk_at b_Sf_link 7 t_Sf_link_7 := dk_go 3 a_Sf_link_4 rfl
theorem a_Sf_link_8 : dk_at b_Sf_link 8 t_Sf_link_8 := dk_go 1 a_Sf_link_7 rfl
theorem a_Sf_link_9 : dk_at b_Sf_link 9 t_Sf_link_9 := dk_go 1 a_Sf_link_8 rfl
theorem a_Sf_link_12 : dk_at b_Sf_link 12 t_Sf_link_12 := dk_go 3 a_Sf_link_9 rfl
theorem a_Sf_link_13 : dk_at b_Sf_link 13 t_Sf_link_13 := dk_go 1 a_Sf_link_12 rfl
theorem a_Sf_link_16 : dk_at b_Sf_link 16 t_Sf_link_16 := dk_go 3 a_Sf_link_13 rfl
theorem a_Sf_link_17 : dk_at b_Sf_link 17 t_Sf_link_17 := dk_go 1 a_Sf_link_16 rfl
theorem a_Sf_link_19 : dk_at b_Sf_link 19 t_Sf_link_19 := dk_go 2 a_Sf_link_17 rfl
theorem a_Sf_link_21 : dk_at b_Sf_link 21 t_Sf_link_21 := dk_go 2 a_Sf_link_19 rfl
theorem a_Sf_link_22 : dk_at b_Sf_link 22 t_Sf_link_22 := dk_go 1 a_Sf_link_21 rfl
theorem a_Sf_link_23 : dk_at b_Sf_link 23 t_Sf_link_23 := dk_go 1 a_Sf_link_22 rfl
theorem a_Sf_link_26 : dk_at b_Sf_link 26 t_Sf_link_26 := dk_go 3 a_Sf_link_23 rfl
theorem a_Sf_link_27 : dk_at b_Sf_link 27 t_Sf_link_27 := dk_go 1 a_Sf_link_26 rfl
theorem a_Sf_link_30 : dk_at b_Sf_link 30 t_Sf_link_30 := dk_go 3 a_Sf_link_27 rfl
theorem a_Sf_link_31 : dk_at b_Sf_link 31 t_Sf_link_31 := dk_go 1 a_Sf_link_30 rfl
theorem a_Sf_link_34 : dk_at b_Sf_link 34 t_Sf_link_34 := dk_go 3 a_Sf_link_31 rfl
theorem a_Sf_link_36 : dk_at b_Sf_link 36 t_Sf_link_36 := dk_go 2 a_Sf_link_34 rfl
theorem a_Sf_link_37 : dk_at b_Sf_link 37 t_Sf_link_37 := dk_go 1 a_Sf_link_36 rfl
theorem a_Sf_link_39 : dk_at b_Sf_link 39 t_Sf_link_39 := dk_go 2 a_Sf_link_37 rfl
theorem a_Sf_link_40 : dk_at b_Sf_link 40 t_Sf_link_40 := dk_go 1 a_Sf_link_39 rfl
theorem a_Sf_link_43 : dk_at b_Sf_link 43 t_Sf_link_43 := dk_go 3 a_Sf_link_40 rfl
theorem a_Sf_link_45 : dk_at b_Sf_link 45 t_Sf_link_45 := dk_go 2 a_Sf_link_43 rfl
theorem a_Sf_link_46 : dk_at b_Sf_link 46 t_Sf_link_46 := dk_go 1 a_Sf_link_45 rfl
theorem a_Sf_link_47 : dk_at b_Sf_link 47 t_Sf_link_47 := dk_go 1 a_Sf_link_46 rfl
theorem a_Sf_link_48 : dk_at b_Sf_link 48 t_Sf_link_48 := dk_go 1 a_Sf_link_47 rfl
theorem a_Sf_link_50 : dk_at b_Sf_link 50 t_Sf_link_50 := dk_go 2 a_Sf_link_48 rfl
theorem a_Sf_link_52 : dk_at b_Sf_link 52 t_Sf_link_52 := dk_go 2 a_Sf_link_50 rfl
theorem a_Sf_link_55 : dk_at b_Sf_link 55 t_Sf_link_55 := dk_go 3 a_Sf_link_52 rfl
theorem a_Sf_link_56 : dk_at b_Sf_link 56 t_Sf_link_56 := dk_go 1 a_Sf_link_55 rfl
theorem a_Sf_link_59 : dk_at b_Sf_link 59 t_Sf_link_59 := dk_go 3 a_Sf_link_56 rfl
theorem a_Sf_link_61 : dk_at b_Sf_link 61 t_Sf_link_61 := dk_go 2 a_Sf_link_59 rfl
theorem a_Sf_link_62 : dk_at b_Sf_link 62 t_Sf_link_62 := dk_go 1 a_Sf_link_61 rfl
theorem a_Sf_link_64 : dk_at b_Sf_link 64 t_Sf_link_64 := dk_go 2 a_Sf_link_62 rfl
theorem a_Sf_link_67 : dk_at b_Sf_link 67 t_Sf_link_67 := dk_go 3 a_Sf_link_64 rfl
theorem a_Sf_link_68 : dk_at b_Sf_link 68 t_Sf_link_68 := dk_go 1 a_Sf_link_67 rfl
theorem a_Sf_link_71 : dk_at b_Sf_link 71 t_Sf_link_71 := dk_go 3 a_Sf_link_68 rfl
theorem a_Sf_link_73 : dk_at b_Sf_link 73 t_Sf_link_73 := dk_go 2 a_Sf_link_71 rfl
theorem a_Sf_link_74 : dk_at b_Sf_link 74 t_Sf_link_74 := dk_go 1 a_Sf_link_73 rfl
theorem a_Sf_link_75 : dk_at b_Sf_link 75 t_Sf_link_75 := dk_go 1 a_Sf_link_74 rfl
theorem a_Sf_link_76 : dk_at b_Sf_link 76 t_Sf_link_76 := dk_go 1 a_Sf_link_75 rfl
theorem a_Sf_link_78 : dk_at b_Sf_link 78 t_Sf_link_78 := dk_go 2 a_Sf_link_76 rfl
theorem a_Sf_link_79 : dk_at b_Sf_link 79 t_Sf_link_79 := dk_go 1 a_Sf_link_78 rfl
theorem a_Sf_link_80 : dk_at b_Sf_link 80 t_Sf_link_80 := dk_go 1 a_Sf_link_79 rfl
theorem a_Sf_link_81 : dk_at b_Sf_link 81 t_Sf_link_81 := dk_go 1 a_Sf_link_80 rfl
theorem a_Sf_link_82 : dk_at b_Sf_link 82 t_Sf_link_82 := dk_go 1 a_Sf_link_81 rfl
theorem a_Sf_link_85 : dk_at b_Sf_link 85 t_Sf_link_85 := dk_go 3 a_Sf_link_82 rfl
theorem a_Sf_link_87 : dk_at b_Sf_link 87 t_Sf_link_87 := dk_go 2 a_Sf_link_85 rfl
theorem a_Sf_link_88 : dk_at b_Sf_link 88 t_Sf_link_88 := dk_go 1 a_Sf_link_87 rfl
theorem a_Sf_link_89 : dk_at b_Sf_link 89 t_Sf_link_89 := dk_go 1 a_Sf_link_88 rfl
theorem a_Sf_link_90 : dk_at b_Sf_link 90 t_Sf_link_90 := dk_go 1 a_Sf_link_89 rfl
theorem a_Sf_link_92 : dk_at b_Sf_link 92 t_Sf_link_92 := dk_go 2 a_Sf_link_90 rfl
theorem a_Sf_link_93 : dk_at b_Sf_link 93 t_Sf_link_93 := dk_go 1 a_Sf_link_92 rfl
theorem a_Sf_link_94 : dk_at b_Sf_link 94 t_Sf_link_94 := dk_go 1 a_Sf_link_93 rfl
theorem a_Sf_link_95 : dk_at b_Sf_link 95 t_Sf_link_95 := dk_go 1 a_Sf_link_94 rfl
theorem a_Sf_link_98 : dk_at b_Sf_link 98 t_Sf_link_98 := dk_go 3 a_Sf_link_95 rfl
theorem a_Sf_link_100 : dk_at b_Sf_link 100 t_Sf_link_100 := dk_go 2 a_Sf_link_98 rfl
theorem a_Sf_link_103 : dk_at b_Sf_link 103 t_Sf_link_103 := dk_go 3 a_Sf_link_100 rfl
theorem a_Sf_link_106 : dk_at b_Sf_link 106 t_Sf_link_106 := dk_go 3 a_Sf_link_103 rfl
theorem a_Sf_link_107 : dk_at b_Sf_link 107 t_Sf_link_107 := dk_go 1 a_Sf_link_106 rfl
theorem a_Sf_link_110 : dk_at b_Sf_link 110 t_Sf_link_110 := dk_go 3 a_Sf_link_107 rfl
theorem a_Sf_link_112 : dk_at b_Sf_link 112 t_Sf_link_112 := dk_go 2 a_Sf_link_110 rfl
theorem a_Sf_link_113 : dk_at b_Sf_link 113 t_Sf_link_113 := dk_go 1 a_Sf_link_112 rfl
theorem a_Sf_link_115 : dk_at b_Sf_link 115 t_Sf_link_115 := dk_go 2 a_Sf_link_113 rfl
theorem a_Sf_link_116 : dk_at b_Sf_link 116 t_Sf_link_116 := dk_go 1 a_Sf_link_115 rfl
theorem a_Sf_link_117 : dk_at b_Sf_link 117 t_Sf_link_117 := dk_go 1 a_Sf_link_116 rfl
theorem a_Sf_link_120 : dk_at b_Sf_link 120 t_Sf_link_120 := dk_go 3 a_Sf_link_117 rfl
theorem a_Sf_link_123 : dk_at b_Sf_link 123 t_Sf_link_123 := dk_go 3 a_Sf_link_120 rfl
theorem a_Sf_link_125 : dk_at b_Sf_link 125 t_Sf_link_125 := dk_go 2 a_Sf_link_123 rfl
theorem a_Sf_link_126 : dk_at b_Sf_link 126 t_Sf_link_126 := dk_go 1 a_Sf_link_125 rfl
theorem a_Sf_link_127 : dk_at b_Sf_link 127 t_Sf_link_127 := dk_go 1 a_Sf_link_126 rfl
theorem a_Sf_link_128 : dk_at b_Sf_link 128 t_Sf_link_128 := dk_go 1 a_Sf_link_127 rfl
theorem a_Sf_link_130 : dk_at b_Sf_link 130 t_Sf_link_130 := dk_go 2 a_Sf_link_128 rfl
theorem a_Sf_link_132 : dk_at b_Sf_link 132 t_Sf_link_132 := dk_go 2 a_Sf_link_130 rfl
theorem a_Sf_link_133 : dk_at b_Sf_link 133 t_Sf_link_133 := dk_go 1 a_Sf_link_132 rfl
theorem a_Sf_link_136 : dk_at b_Sf_link 136 t_Sf_link_136 := dk_go 3 a_Sf_link_133 rfl
theorem a_Sf_link_137 : dk_at b_Sf_link 137 t_Sf_link_137 := dk_go 1 a_Sf_link_136 rfl
theorem a_Sf_link_140 : dk_at b_Sf_link 140 t_Sf_link_140 := dk_go 3 a_Sf_link_137 rfl
theorem a_Sf_link_142 : dk_at b_Sf_link 142 t_Sf_link_142 := dk_go 2 a_Sf_link_140 rfl
theorem a_Sf_link_143 : dk_at b_Sf_link 143 t_Sf_link_143 := dk_go 1 a_Sf_link_142 rfl
theorem a_Sf_link_144 : dk_at b_Sf_link 144 t_Sf_link_144 := dk_go 1 a_Sf_link_143 rfl
theorem a_Sf_link_147 : dk_at b_Sf_link 147 t_Sf_link_147 := dk_go 3 a_Sf_link_144 rfl
theorem a_Sf_link_149 : dk_at b_Sf_link 149 t_Sf_link_149 := dk_go 2 a_Sf_link_147 rfl
theorem a_Sf_link_150 : dk_at b_Sf_link 150 t_Sf_link_150 := dk_go 1 a_Sf_link_149 rfl
theorem a_Sf_link_151 : dk_at b_Sf_link 151 t_Sf_link_151 := dk_go 1 a_Sf_link_150 rfl
theorem a_Sf_link_152 : dk_at b_Sf_link 152 t_Sf_link_152 := dk_go 1 a_Sf_link_151 rfl
theorem a_Sf_link_154 : dk_at b_Sf_link 154 t_Sf_link_154 := dk_go 2 a_Sf_link_152 rfl
theorem a_Sf_link_155 : dk_at b_Sf_link 155 t_Sf_link_155 := dk_go 1 a_Sf_link_154 rfl
theorem a_Sf_link_157 : dk_at b_Sf_link 157 t_Sf_link_157 := dk_go 2 a_Sf_link_155 rfl
theorem a_Sf_link_158 : dk_at b_Sf_link 158 t_Sf_link_158 := dk_go 1 a_Sf_link_157 rfl
theorem a_Sf_link_160 : dk_at b_Sf_link 160 t_Sf_link_160 := dk_go 2 a_Sf_link_158 rfl
theorem a_Sf_link_162 : dk_at b_Sf_link 162 t_Sf_link_162 := dk_go 2 a_Sf_link_160 rfl
theorem a_Sf_link_163 : dk_at b_Sf_link 163 t_Sf_link_163 := dk_go 1 a_Sf_link_162 rfl
theorem a_Sf_link_166 : dk_at b_Sf_link 166 t_Sf_link_166 := dk_go 3 a_Sf_link_163 rfl
theorem a_Sf_link_167 : dk_at b_Sf_link 167 t_Sf_link_167 := dk_go 1 a_Sf_link_166 rfl
theorem a_Sf_link_170 : dk_at b_Sf_link 170 t_Sf_link_170 := dk_go 3 a_Sf_link_167 rfl
theorem a_Sf_link_172 : dk_at b_Sf_link 172 t_Sf_link_172 := dk_go 2 a_Sf_link_170 rfl
theorem a_Sf_link_173 : dk_at b_Sf_link 173 t_Sf_link_173 := dk_go 1 a_Sf_link_172 rfl
theorem a_Sf_link_174 : dk_at b_Sf_link 174 t_Sf_link_174 := dk_go 1 a_Sf_link_173 rfl
theorem a_Sf_link_176 : dk_at b_Sf_link 176 t_Sf_link_176 := dk_go 2 a_Sf_link_174 rfl
theorem a_Sf_link_177 : dk_at b_Sf_link 177 t_Sf_link_177 := dk_go 1 a_Sf_link_176 rfl
theorem a_Sf_link_178 : dk_at b_Sf_link 178 t_Sf_link_178 := dk_go 1 a_Sf_link_177 rfl
theorem a_Sf_link_180 : dk_at b_Sf_link 180 t_Sf_link_180 := dk_go 2 a_Sf_link_178 rfl
theorem a_Sf_link_182 : dk_at b_Sf_link 182 t_Sf_link_182 := dk_go 2 a_Sf_link_180 rfl
theorem a_Sf_link_184 : dk_at b_Sf_link 184 t_Sf_link_184 := dk_go 2 a_Sf_link_182 rfl
theorem a_Sf_link_185 : dk_at b_Sf_link 185 t_Sf_link_185 := dk_go 1 a_Sf_link_184 rfl
theorem a_Sf_link_186 : dk_at b_Sf_link 186 t_Sf_link_186 := dk_go 1 a_Sf_link_185 rfl
theorem a_Sf_link_187 : dk_at b_Sf_link 187 t_Sf_link_187 := dk_go 1 a_Sf_link_186 rfl
theorem a_Sf_link_190 : dk_at b_Sf_link 190 t_Sf_link_190 := dk_go 3 a_Sf_link_187 rfl
theorem a_Sf_link_192 : dk_at b_Sf_link 192 t_Sf_link_192 := dk_go 2 a_Sf_link_190 rfl
theorem a_Sf_link_195 : dk_at b_Sf_link 195 t_Sf_link_195 := dk_go 3 a_Sf_link_192 rfl
theorem a_Sf_link_196 : dk_at b_Sf_link 196 t_Sf_link_196 := dk_go 1 a_Sf_link_195 rfl
theorem a_Sf_link_199 : dk_at b_Sf_link 199 t_Sf_link_199 := dk_go 3 a_Sf_link_196 rfl
theorem a_Sf_link_201 : dk_at b_Sf_link 201 t_Sf_link_201 := dk_go 2 a_Sf_link_199 rfl
theorem a_Sf_link_202 : dk_at b_Sf_link 202 t_Sf_link_202 := dk_go 1 a_Sf_link_201 rfl
theorem a_Sf_link_203 : dk_at b_Sf_link 203 t_Sf_link_203 := dk_go 1 a_Sf_link_202 rfl
theorem a_Sf_link_204 : dk_at b_Sf_link 204 t_Sf_link_204 := dk_go 1 a_Sf_link_203 rfl
theorem a_Sf_link_205 : dk_at b_Sf_link 205 t_Sf_link_205 := dk_go 1 a_Sf_link_204 rfl
theorem a_Sf_link_208 : dk_at b_Sf_link 208 t_Sf_link_208 := dk_go 3 a_Sf_link_205 rfl
theorem a_Sf_link_210 : dk_at b_Sf_link 210 t_Sf_link_210 := dk_go 2 a_Sf_link_208 rfl
theorem a_Sf_link_211 : dk_at b_Sf_link 211 t_Sf_link_211 := dk_go 1 a_Sf_link_210 rfl
theorem a_Sf_link_212 : dk_at b_Sf_link 212 t_Sf_link_212 := dk_go 1 a_Sf_link_211 rfl
theorem a_Sf_link_213 : dk_at b_Sf_link 213 t_Sf_link_213 := dk_go 1 a_Sf_link_212 rfl
theorem a_Sf_link_214 : dk_at b_Sf_link 214 t_Sf_link_214 := dk_go 1 a_Sf_link_213 rfl
theorem a_Sf_link_215 : dk_at b_Sf_link 215 t_Sf_link_215 := dk_go 1 a_Sf_link_214 rfl
theorem a_Sf_link_216 : dk_at b_Sf_link 216 t_Sf_link_216 := dk_go 1 a_Sf_link_215 rfl
theorem a_Sf_link_219 : dk_at b_Sf_link 219 t_Sf_link_219 := dk_go 3 a_Sf_link_216 rfl
theorem a_Sf_link_222 : dk_at b_Sf_link 222 t_Sf_link_222 := dk_go 3 a_Sf_link_219 rfl
theorem a_Sf_link_225 : dk_at b_Sf_link 225 t_Sf_link_225 := dk_go 3 a_Sf_link_222 rfl
theorem a_Sf_link_228 : dk_at b_Sf_link 228 t_Sf_link_228 := dk_go 3 a_Sf_link_225 rfl
theorem d_Sf_link_0 : decode b_Sf_link 0 = .ok (.aload_n 0, 1) := dk_0 a_Sf_link_0 (dko_42 _)
theorem d_Sf_link_1 : decode b_Sf_link 1 = .ok (.getfield 25, 3) := dk_U2 a_Sf_link_1 (dko_180 _) rfl
theorem d_Sf_link_4 : decode b_Sf_link 4 = .ok (.getfield 60, 3) := dk_U2 a_Sf_link_4 (dko_180 _) rfl
theorem d_Sf_link_7 : decode b_Sf_link 7 = .ok (.astore_n 3, 1) := dk_0 a_Sf_link_7 (dko_78 _)
theorem d_Sf_link_8 : decode b_Sf_link 8 = .ok (.aload_n 0, 1) := dk_0 a_Sf_link_8 (dko_42 _)
theorem d_Sf_link_9 : decode b_Sf_link 9 = .ok (.getfield 22, 3) := dk_U2 a_Sf_link_9 (dko_180 _) rfl
theorem d_Sf_link_12 : decode b_Sf_link 12 = .ok (.lconst 0, 1) := dk_0 a_Sf_link_12 (dko_9 _)
theorem d_Sf_link_13 : decode b_Sf_link 13 = .ok (.invokestatic 37, 3) := dk_U2 a_Sf_link_13 (dko_184 _) rfl
theorem d_Sf_link_16 : decode b_Sf_link 16 = .ok (.iconst 0, 1) := dk_0 a_Sf_link_16 (dko_3 _)
theorem d_Sf_link_17 : decode b_Sf_link 17 = .ok (.istore 4, 2) := dk_U1 a_Sf_link_17 (dko_54 _) rfl
theorem d_Sf_link_19 : decode b_Sf_link 19 = .ok (.iload 4, 2) := dk_U1 a_Sf_link_19 (dko_21 _) rfl
theorem d_Sf_link_21 : decode b_Sf_link 21 = .ok (.iconst 2, 1) := dk_0 a_Sf_link_21 (dko_5 _)
theorem d_Sf_link_22 : decode b_Sf_link 22 = .ok (.aload_n 3, 1) := dk_0 a_Sf_link_22 (dko_45 _)
theorem d_Sf_link_23 : decode b_Sf_link 23 = .ok (.getfield 95, 3) := dk_U2 a_Sf_link_23 (dko_180 _) rfl
theorem d_Sf_link_26 : decode b_Sf_link 26 = .ok (.imul, 1) := dk_0 a_Sf_link_26 (dko_104 _)
theorem d_Sf_link_27 : decode b_Sf_link 27 = .ok (.if_icmp .ge 201, 3) := dk_S2 a_Sf_link_27 (dko_162 _) (by decide +kernel)
theorem d_Sf_link_30 : decode b_Sf_link 30 = .ok (.aload_n 3, 1) := dk_0 a_Sf_link_30 (dko_45 _)
theorem d_Sf_link_31 : decode b_Sf_link 31 = .ok (.getfield 121, 3) := dk_U2 a_Sf_link_31 (dko_180 _) rfl
theorem d_Sf_link_34 : decode b_Sf_link 34 = .ok (.iload 4, 2) := dk_U1 a_Sf_link_34 (dko_21 _) rfl
theorem d_Sf_link_36 : decode b_Sf_link 36 = .ok (.iaload, 1) := dk_0 a_Sf_link_36 (dko_46 _)
theorem d_Sf_link_37 : decode b_Sf_link 37 = .ok (.istore 5, 2) := dk_U1 a_Sf_link_37 (dko_54 _) rfl
theorem d_Sf_link_39 : decode b_Sf_link 39 = .ok (.aload_n 3, 1) := dk_0 a_Sf_link_39 (dko_45 _)
theorem d_Sf_link_40 : decode b_Sf_link 40 = .ok (.getfield 66, 3) := dk_U2 a_Sf_link_40 (dko_180 _) rfl
theorem d_Sf_link_43 : decode b_Sf_link 43 = .ok (.iload 4, 2) := dk_U1 a_Sf_link_43 (dko_21 _) rfl
theorem d_Sf_link_45 : decode b_Sf_link 45 = .ok (.iconst 1, 1) := dk_0 a_Sf_link_45 (dko_4 _)
theorem d_Sf_link_46 : decode b_Sf_link 46 = .ok (.ishr, 1) := dk_0 a_Sf_link_46 (dko_122 _)
theorem d_Sf_link_47 : decode b_Sf_link 47 = .ok (.iadd, 1) := dk_0 a_Sf_link_47 (dko_96 _)
theorem d_Sf_link_48 : decode b_Sf_link 48 = .ok (.istore 6, 2) := dk_U1 a_Sf_link_48 (dko_54 _) rfl
theorem d_Sf_link_50 : decode b_Sf_link 50 = .ok (.iload 5, 2) := dk_U1 a_Sf_link_50 (dko_21 _) rfl
theorem d_Sf_link_52 : decode b_Sf_link 52 = .ok (.ifCond .lt 46, 3) := dk_S2 a_Sf_link_52 (dko_155 _) (by decide +kernel)
theorem d_Sf_link_55 : decode b_Sf_link 55 = .ok (.aload_n 3, 1) := dk_0 a_Sf_link_55 (dko_45 _)
theorem d_Sf_link_56 : decode b_Sf_link 56 = .ok (.getfield 75, 3) := dk_U2 a_Sf_link_56 (dko_180 _) rfl
theorem d_Sf_link_59 : decode b_Sf_link 59 = .ok (.iload 5, 2) := dk_U1 a_Sf_link_59 (dko_21 _) rfl
theorem d_Sf_link_61 : decode b_Sf_link 61 = .ok (.iaload, 1) := dk_0 a_Sf_link_61 (dko_46 _)
theorem d_Sf_link_62 : decode b_Sf_link 62 = .ok (.bipush 9, 2) := dk_S1 a_Sf_link_62 (dko_16 _) (by decide +kernel)
theorem d_Sf_link_64 : decode b_Sf_link 64 = .ok (.if_icmp .ne 34, 3) := dk_S2 a_Sf_link_64 (dko_160 _) (by decide +kernel)
theorem d_Sf_link_67 : decode b_Sf_link 67 = .ok (.aload_n 0, 1) := dk_0 a_Sf_link_67 (dko_42 _)
theorem d_Sf_link_68 : decode b_Sf_link 68 = .ok (.getfield 22, 3) := dk_U2 a_Sf_link_68 (dko_180 _) rfl
theorem d_Sf_link_71 : decode b_Sf_link 71 = .ok (.iload 5, 2) := dk_U1 a_Sf_link_71 (dko_21 _) rfl
theorem d_Sf_link_73 : decode b_Sf_link 73 = .ok (.dup2, 1) := dk_0 a_Sf_link_73 (dko_92 _)
theorem d_Sf_link_74 : decode b_Sf_link 74 = .ok (.laload, 1) := dk_0 a_Sf_link_74 (dko_47 _)
theorem d_Sf_link_75 : decode b_Sf_link 75 = .ok (.lconst 1, 1) := dk_0 a_Sf_link_75 (dko_10 _)
theorem d_Sf_link_76 : decode b_Sf_link 76 = .ok (.iload 6, 2) := dk_U1 a_Sf_link_76 (dko_21 _) rfl
theorem d_Sf_link_78 : decode b_Sf_link 78 = .ok (.lshl, 1) := dk_0 a_Sf_link_78 (dko_121 _)
theorem d_Sf_link_79 : decode b_Sf_link 79 = .ok (.lor, 1) := dk_0 a_Sf_link_79 (dko_129 _)
theorem d_Sf_link_80 : decode b_Sf_link 80 = .ok (.lastore, 1) := dk_0 a_Sf_link_80 (dko_80 _)
theorem d_Sf_link_81 : decode b_Sf_link 81 = .ok (.aload_n 0, 1) := dk_0 a_Sf_link_81 (dko_42 _)
theorem d_Sf_link_82 : decode b_Sf_link 82 = .ok (.getfield 22, 3) := dk_U2 a_Sf_link_82 (dko_180 _) rfl
theorem d_Sf_link_85 : decode b_Sf_link 85 = .ok (.iload 6, 2) := dk_U1 a_Sf_link_85 (dko_21 _) rfl
theorem d_Sf_link_87 : decode b_Sf_link 87 = .ok (.dup2, 1) := dk_0 a_Sf_link_87 (dko_92 _)
theorem d_Sf_link_88 : decode b_Sf_link 88 = .ok (.laload, 1) := dk_0 a_Sf_link_88 (dko_47 _)
theorem d_Sf_link_89 : decode b_Sf_link 89 = .ok (.lconst 1, 1) := dk_0 a_Sf_link_89 (dko_10 _)
theorem d_Sf_link_90 : decode b_Sf_link 90 = .ok (.iload 5, 2) := dk_U1 a_Sf_link_90 (dko_21 _) rfl
theorem d_Sf_link_92 : decode b_Sf_link 92 = .ok (.lshl, 1) := dk_0 a_Sf_link_92 (dko_121 _)
theorem d_Sf_link_93 : decode b_Sf_link 93 = .ok (.lor, 1) := dk_0 a_Sf_link_93 (dko_129 _)
theorem d_Sf_link_94 : decode b_Sf_link 94 = .ok (.lastore, 1) := dk_0 a_Sf_link_94 (dko_80 _)
theorem d_Sf_link_95 : decode b_Sf_link 95 = .ok (.goto 127, 3) := dk_S2 a_Sf_link_95 (dko_167 _) (by decide +kernel)
theorem d_Sf_link_98 : decode b_Sf_link 98 = .ok (.iload 5, 2) := dk_U1 a_Sf_link_98 (dko_21 _) rfl
theorem d_Sf_link_100 : decode b_Sf_link 100 = .ok (.ifCond .lt 122, 3) := dk_S2 a_Sf_link_100 (dko_155 _) (by decide +kernel)
theorem d_Sf_link_103 : decode b_Sf_link 103 = .ok (.getstatic 78, 3) := dk_U2 a_Sf_link_103 (dko_178 _) rfl
theorem d_Sf_link_106 : decode b_Sf_link 106 = .ok (.aload_n 3, 1) := dk_0 a_Sf_link_106 (dko_45 _)
theorem d_Sf_link_107 : decode b_Sf_link 107 = .ok (.getfield 75, 3) := dk_U2 a_Sf_link_107 (dko_180 _) rfl
theorem d_Sf_link_110 : decode b_Sf_link 110 = .ok (.iload 5, 2) := dk_U1 a_Sf_link_110 (dko_21 _) rfl
theorem d_Sf_link_112 : decode b_Sf_link 112 = .ok (.iaload, 1) := dk_0 a_Sf_link_112 (dko_46 _)
theorem d_Sf_link_113 : decode b_Sf_link 113 = .ok (.bipush 10, 2) := dk_S1 a_Sf_link_113 (dko_16 _) (by decide +kernel)
theorem d_Sf_link_115 : decode b_Sf_link 115 = .ok (.imul, 1) := dk_0 a_Sf_link_115 (dko_104 _)
theorem d_Sf_link_116 : decode b_Sf_link 116 = .ok (.aload_n 0, 1) := dk_0 a_Sf_link_116 (dko_42 _)
theorem d_Sf_link_117 : decode b_Sf_link 117 = .ok (.getfield 25, 3) := dk_U2 a_Sf_link_117 (dko_180 _) rfl
theorem d_Sf_link_120 : decode b_Sf_link 120 = .ok (.getfield 81, 3) := dk_U2 a_Sf_link_120 (dko_180 _) rfl
theorem d_Sf_link_123 : decode b_Sf_link 123 = .ok (.iload 5, 2) := dk_U1 a_Sf_link_123 (dko_21 _) rfl
theorem d_Sf_link_125 : decode b_Sf_link 125 = .ok (.iaload, 1) := dk_0 a_Sf_link_125 (dko_46 _)
theorem d_Sf_link_126 : decode b_Sf_link 126 = .ok (.iadd, 1) := dk_0 a_Sf_link_126 (dko_96 _)
theorem d_Sf_link_127 : decode b_Sf_link 127 = .ok (.iaload, 1) := dk_0 a_Sf_link_127 (dko_46 _)
theorem d_Sf_link_128 : decode b_Sf_link 128 = .ok (.istore 7, 2) := dk_U1 a_Sf_link_128 (dko_54 _) rfl
theorem d_Sf_link_130 : decode b_Sf_link 130 = .ok (.iload 5, 2) := dk_U1 a_Sf_link_130 (dko_21 _) rfl
theorem d_Sf_link_132 : decode b_Sf_link 132 = .ok (.iload_n 1, 1) := dk_0 a_Sf_link_132 (dko_27 _)
theorem d_Sf_link_133 : decode b_Sf_link 133 = .ok (.if_icmp .ne 7, 3) := dk_S2 a_Sf_link_133 (dko_160 _) (by decide +kernel)
theorem d_Sf_link_136 : decode b_Sf_link 136 = .ok (.iload_n 2, 1) := dk_0 a_Sf_link_136 (dko_28 _)
theorem d_Sf_link_137 : decode b_Sf_link 137 = .ok (.goto 5, 3) := dk_S2 a_Sf_link_137 (dko_167 _) (by decide +kernel)
theorem d_Sf_link_140 : decode b_Sf_link 140 = .ok (.iload 7, 2) := dk_U1 a_Sf_link_140 (dko_21 _) rfl
theorem d_Sf_link_142 : decode b_Sf_link 142 = .ok (.iconst 4, 1) := dk_0 a_Sf_link_142 (dko_7 _)
theorem d_Sf_link_143 : decode b_Sf_link 143 = .ok (.aload_n 3, 1) := dk_0 a_Sf_link_143 (dko_45 _)
theorem d_Sf_link_144 : decode b_Sf_link 144 = .ok (.getfield 124, 3) := dk_U2 a_Sf_link_144 (dko_180 _) rfl
theorem d_Sf_link_147 : decode b_Sf_link 147 = .ok (.iload 4, 2) := dk_U1 a_Sf_link_147 (dko_21 _) rfl
theorem d_Sf_link_149 : decode b_Sf_link 149 = .ok (.iaload, 1) := dk_0 a_Sf_link_149 (dko_46 _)
theorem d_Sf_link_150 : decode b_Sf_link 150 = .ok (.imul, 1) := dk_0 a_Sf_link_150 (dko_104 _)
theorem d_Sf_link_151 : decode b_Sf_link 151 = .ok (.ishr, 1) := dk_0 a_Sf_link_151 (dko_122 _)
theorem d_Sf_link_152 : decode b_Sf_link 152 = .ok (.bipush 15, 2) := dk_S1 a_Sf_link_152 (dko_16 _) (by decide +kernel)
theorem d_Sf_link_154 : decode b_Sf_link 154 = .ok (.iand, 1) := dk_0 a_Sf_link_154 (dko_126 _)
theorem d_Sf_link_155 : decode b_Sf_link 155 = .ok (.istore 8, 2) := dk_U1 a_Sf_link_155 (dko_54 _) rfl
theorem d_Sf_link_157 : decode b_Sf_link 157 = .ok (.iconst 0, 1) := dk_0 a_Sf_link_157 (dko_3 _)
theorem d_Sf_link_158 : decode b_Sf_link 158 = .ok (.istore 9, 2) := dk_U1 a_Sf_link_158 (dko_54 _) rfl
theorem d_Sf_link_160 : decode b_Sf_link 160 = .ok (.iload 9, 2) := dk_U1 a_Sf_link_160 (dko_21 _) rfl
theorem d_Sf_link_162 : decode b_Sf_link 162 = .ok (.iconst 4, 1) := dk_0 a_Sf_link_162 (dko_7 _)
theorem d_Sf_link_163 : decode b_Sf_link 163 = .ok (.if_icmp .ge 59, 3) := dk_S2 a_Sf_link_163 (dko_162 _) (by decide +kernel)
theorem d_Sf_link_166 : decode b_Sf_link 166 = .ok (.aload_n 3, 1) := dk_0 a_Sf_link_166 (dko_45 _)
theorem d_Sf_link_167 : decode b_Sf_link 167 = .ok (.getfield 127, 3) := dk_U2 a_Sf_link_167 (dko_180 _) rfl
theorem d_Sf_link_170 : decode b_Sf_link 170 = .ok (.iload 5, 2) := dk_U1 a_Sf_link_170 (dko_21 _) rfl
theorem d_Sf_link_172 : decode b_Sf_link 172 = .ok (.iconst 4, 1) := dk_0 a_Sf_link_172 (dko_7 _)
theorem d_Sf_link_173 : decode b_Sf_link 173 = .ok (.imul, 1) := dk_0 a_Sf_link_173 (dko_104 _)
theorem d_Sf_link_174 : decode b_Sf_link 174 = .ok (.iload 9, 2) := dk_U1 a_Sf_link_174 (dko_21 _) rfl
theorem d_Sf_link_176 : decode b_Sf_link 176 = .ok (.iadd, 1) := dk_0 a_Sf_link_176 (dko_96 _)
theorem d_Sf_link_177 : decode b_Sf_link 177 = .ok (.iaload, 1) := dk_0 a_Sf_link_177 (dko_46 _)
theorem d_Sf_link_178 : decode b_Sf_link 178 = .ok (.istore 10, 2) := dk_U1 a_Sf_link_178 (dko_54 _) rfl
theorem d_Sf_link_180 : decode b_Sf_link 180 = .ok (.iload 8, 2) := dk_U1 a_Sf_link_180 (dko_21 _) rfl
theorem d_Sf_link_182 : decode b_Sf_link 182 = .ok (.iload 9, 2) := dk_U1 a_Sf_link_182 (dko_21 _) rfl
theorem d_Sf_link_184 : decode b_Sf_link 184 = .ok (.ishr, 1) := dk_0 a_Sf_link_184 (dko_122 _)
theorem d_Sf_link_185 : decode b_Sf_link 185 = .ok (.iconst 1, 1) := dk_0 a_Sf_link_185 (dko_4 _)
theorem d_Sf_link_186 : decode b_Sf_link 186 = .ok (.iand, 1) := dk_0 a_Sf_link_186 (dko_126 _)
theorem d_Sf_link_187 : decode b_Sf_link 187 = .ok (.ifCond .eq 29, 3) := dk_S2 a_Sf_link_187 (dko_153 _) (by decide +kernel)
theorem d_Sf_link_190 : decode b_Sf_link 190 = .ok (.iload 10, 2) := dk_U1 a_Sf_link_190 (dko_21 _) rfl
theorem d_Sf_link_192 : decode b_Sf_link 192 = .ok (.ifCond .lt 24, 3) := dk_S2 a_Sf_link_192 (dko_155 _) (by decide +kernel)
theorem d_Sf_link_195 : decode b_Sf_link 195 = .ok (.aload_n 0, 1) := dk_0 a_Sf_link_195 (dko_42 _)
theorem d_Sf_link_196 : decode b_Sf_link 196 = .ok (.getfield 22, 3) := dk_U2 a_Sf_link_196 (dko_180 _) rfl
theorem d_Sf_link_199 : decode b_Sf_link 199 = .ok (.iload 6, 2) := dk_U1 a_Sf_link_199 (dko_21 _) rfl
theorem d_Sf_link_201 : decode b_Sf_link 201 = .ok (.dup2, 1) := dk_0 a_Sf_link_201 (dko_92 _)
theorem d_Sf_link_202 : decode b_Sf_link 202 = .ok (.laload, 1) := dk_0 a_Sf_link_202 (dko_47 _)
theorem d_Sf_link_203 : decode b_Sf_link 203 = .ok (.lconst 1, 1) := dk_0 a_Sf_link_203 (dko_10 _)
theorem d_Sf_link_204 : decode b_Sf_link 204 = .ok (.aload_n 3, 1) := dk_0 a_Sf_link_204 (dko_45 _)
theorem d_Sf_link_205 : decode b_Sf_link 205 = .ok (.getfield 66, 3) := dk_U2 a_Sf_link_205 (dko_180 _) rfl
theorem d_Sf_link_208 : decode b_Sf_link 208 = .ok (.iload 10, 2) := dk_U1 a_Sf_link_208 (dko_21 _) rfl
theorem d_Sf_link_210 : decode b_Sf_link 210 = .ok (.iconst 1, 1) := dk_0 a_Sf_link_210 (dko_4 _)
theorem d_Sf_link_211 : decode b_Sf_link 211 = .ok (.ishr, 1) := dk_0 a_Sf_link_211 (dko_122 _)
theorem d_Sf_link_212 : decode b_Sf_link 212 = .ok (.iadd, 1) := dk_0 a_Sf_link_212 (dko_96 _)
theorem d_Sf_link_213 : decode b_Sf_link 213 = .ok (.lshl, 1) := dk_0 a_Sf_link_213 (dko_121 _)
theorem d_Sf_link_214 : decode b_Sf_link 214 = .ok (.lor, 1) := dk_0 a_Sf_link_214 (dko_129 _)
theorem d_Sf_link_215 : decode b_Sf_link 215 = .ok (.lastore, 1) := dk_0 a_Sf_link_215 (dko_80 _)
theorem d_Sf_link_216 : decode b_Sf_link 216 = .ok (.iinc 9 1, 3) := dk_US a_Sf_link_216 (dko_132 _) (by decide +kernel)
theorem d_Sf_link_219 : decode b_Sf_link 219 = .ok (.goto (-59), 3) := dk_S2 a_Sf_link_219 (dko_167 _) (by decide +kernel)
theorem d_Sf_link_222 : decode b_Sf_link 222 = .ok (.iinc 4 1, 3) := dk_US a_Sf_link_222 (dko_132 _) (by decide +kernel)
theorem d_Sf_link_225 : decode b_Sf_link 225 = .ok (.goto (-206), 3) := dk_S2 a_Sf_link_225 (dko_167 _) (by decide +kernel)
theorem d_Sf_link_228 : decode b_Sf_link 228 = .ok (.return_, 1) := dk_0 a_Sf_link_228 (dko_177 _)
set_option maxHeartbeats 4000000 in
set_option maxRecDepth 100000 in
theorem ok_Sf_link (pc : Nat) : OpS mt mi_Sf_link pc (cs_Sf_link pc) := (os_n (os_n (os_n (os_n (os_n (os_n (os_n (os_l (so_aload_n d_Sf_link_0 rfl)) (os_l (so_get (C := R_Sf) (T := F_Sf) (N := 10) (j := 0) in_Sf rfl (by decide) mw_282 d_Sf_link_1))) (os_n (os_l (so_get (C := R_St) (T := F_St) (N := 12) (j := 0) in_St rfl (by decide) mw_150 d_Sf_link_4)) (os_l (so_astore_n d_Sf_link_7 rfl (by decide))))) (os_n (os_n (os_l (so_aload_n d_Sf_link_8 rfl)) (os_l (so_get (C := R_Sf) (T := F_Sf) (N := 10) (j := 5) in_Sf rfl (by decide) mw_287 d_Sf_link_9))) (os_n (os_l (so_lconst d_Sf_link_12 (by decide))) (os_l (so_callS (iv := mi_Ar_fill1) rfl mw_1096 mw_1021 mw_6 mw_1022 ⟨by decide +kernel, by decide +kernel, by decide +kernel⟩ (by decide) d_Sf_link_13))))) (os_n (os_n (os_n (os_l (so_iconst d_Sf_link_16 (by decide))) (os_l (so_istore d_Sf_link_17 (by decide)))) (os_n (os_l (so_iload d_Sf_link_19)) (os_l (so_iconst d_Sf_link_21 (by decide))))) (os_n (os_n (os_l (so_aload_n d_Sf_link_22 rfl)) (os_l (so_get (C := R_Pl) (T := F_Pl) (N := 12) (j := 1) in_Pl rfl (by decide) mw_93 d_Sf_link_23))) (os_n (os_l (so_imul d_Sf_link_26)) (os_l (so_icge d_Sf_link_27 (by decide))))))) (os_n (os_n (os_n (os_n (os_l (so_aload_n d_Sf_link_30 rfl)) (os_l (so_get (C := R_Pl) (T := F_Pl) (N := 12) (j := 6) in_Pl rfl (by decide) mw_109 d_Sf_link_31))) (os_n (os_l (so_iload d_Sf_link_34)) (os_l (so_iaload d_Sf_link_36)))) (os_n (os_n (os_l (so_istore d_Sf_link_37 (by decide))) (os_l (so_aload_n d_Sf_link_39 rfl))) (os_n (os_l (so_get (C := R_Pl) (T := F_Pl) (N := 12) (j := 0) in_Pl rfl (by decide) mw_87 d_Sf_link_40)) (os_l (so_iload d_Sf_link_43))))) (os_n (os_n (os_n (os_l (so_iconst d_Sf_link_45 (by decide))) (os_l (so_ishr d_Sf_link_46))) (os_n (os_l (so_iadd d_Sf_link_47)) (os_l (so_istore d_Sf_link_48 (by decide))))) (os_n (os_n (os_l (so_iload d_Sf_link_50)) (os_l (so_iflt d_Sf_link_52 (by decide)))) (os_n (os_l (so_aload_n d_Sf_link_55 rfl)) (os_n (os_l (so_get (C := R_Pl) (T := F_Pl) (N := 12) (j := 2) in_Pl rfl (by decide) mw_97 d_Sf_link_56)) (os_l (so_iload d_Sf_link_59)))))))) (os_n (os_n (os_n (os_n (os_n (os_l (so_iaload d_Sf_link_61)) (os_l (so_bipush d_Sf_link_62 (by decide)))) (os_n (os_l (so_icne d_Sf_link_64 (by decide))) (os_l (so_aload_n d_Sf_link_67 rfl)))) (os_n (os_n (os_l (so_get (C := R_Sf) (T := F_Sf) (N := 10) (j := 5) in_Sf rfl (by decide) mw_287 d_Sf_link_68)) (os_l (so_iload d_Sf_link_71))) (os_n (os_l (so_dup2 d_Sf_link_73)) (os_l (so_laload d_Sf_link_74))))) (os_n (os_n (os_n (os_l (so_lconst d_Sf_link_75 (by decide))) (os_l (so_iload d_Sf_link_76))) (os_n (os_l (so_lshl d_Sf_link_78)) (os_l (so_lor d_Sf_link_79)))) (os_n (os_n (os_l (so_lastore d_Sf_link_80)) (os_l (so_aload_n d_Sf_link_81 rfl))) (os_n (os_l (so_get (C := R_Sf) (T := F_Sf) (N := 10) (j := 5) in_Sf rfl (by decide) mw_287 d_Sf_link_82)) (os_l (so_iload d_Sf_link_85)))))) (os_n (os_n (os_n (os_n (os_l (so_dup2 d_Sf_link_87)) (os_l (so_laload d_Sf_link_88))) (os_n (os_l (so_lconst d_Sf_link_89 (by decide))) (os_l (so_iload d_Sf_link_90)))) (os_n (os_n (os_l (so_lshl d_Sf_link_92)) (os_l (so_lor d_Sf_link_93))) (os_n (os_l (so_lastore d_Sf_link_94)) (os_l (so_goto d_Sf_link_95 (by decide)))))) (os_n (os_n (os_n (os_l (so_iload d_Sf_link_98)) (os_l (so_iflt d_Sf_link_100 (by decide)))) (os_n (os_l (so_gsN (fun _ _ _ _ h => h.2.1.1) nw_1109 d_Sf_link_103)) (os_l (so_aload_n d_Sf_link_106 rfl)))) (os_n (os_n (os_l (so_get (C := R_Pl) (T := F_Pl) (N := 12) (j := 2) in_Pl rfl (by decide) mw_97 d_Sf_link_107)) (os_l (so_iload d_Sf_link_110))) (os_n (os_l (so_iaload d_Sf_link_112)) (os_n (os_l (so_bipush d_Sf_link_113 (by decide))) (os_l (so_imul d_Sf_link_115))))))))) (os_n (os_n (os_n (os_n (os_n (os_n (os_l (so_aload_n d_Sf_link_116 rfl)) (os_l (so_get (C := R_Sf) (T := F_Sf) (N := 10) (j := 0) in_Sf rfl (by decide) mw_282 d_Sf_link_117))) (os_n (os_l (so_get (C := R_St) (T := F_St) (N := 12) (j := 2) in_St rfl (by decide) mw_158 d_Sf_link_120)) (os_l (so_iload d_Sf_link_123)))) (os_n (os_n (os_l (so_iaload d_Sf_link_125)) (os_l (so_iadd d_Sf_link_126))) (os_n (os_l (so_iaload d_Sf_link_127)) (os_l (so_istore d_Sf_link_128 (by decide)))))) (os_n (os_n (os_n (os_l (so_iload d_Sf_link_130)) (os_l (so_iload_n d_Sf_link_132 rfl))) (os_n (os_l (so_icne d_Sf_link_133 (by decide))) (os_l (so_iload_n d_Sf_link_136 rfl)))) (os_n (os_n (os_l (so_goto d_Sf_link_137 (by decide))) (os_l (so_iload d_Sf_link_140))) (os_n (os_l (so_iconst d_Sf_link_142 (by decide))) (os_l (so_aload_n d_Sf_link_143 rfl)))))) (os_n (os_n (os_n (os_n (os_l (so_get (C := R_Pl) (T := F_Pl) (N := 12) (j := 7) in_Pl rfl (by decide) mw_112 d_Sf_link_144)) (os_l (so_iload d_Sf_link_147))) (os_n (os_l (so_iaload d_Sf_link_149)) (os_l (so_imul d_Sf_link_150)))) (os_n (os_n (os_l (so_ishr d_Sf_link_151)) (os_l (so_bipush d_Sf_link_152 (by decide)))) (os_n (os_l (so_iand d_Sf_link_154)) (os_l (so_istore d_Sf_link_155 (by decide)))))) (os_n (os_n (os_n (os_l (so_iconst d_Sf_link_157 (by decide))) (os_l (so_istore d_Sf_link_158 (by decide)))) (os_n (os_l (so_iload d_Sf_link_160)) (os_l (so_iconst d_Sf_link_162 (by decide))))) (os_n (os_n (os_l (so_icge d_Sf_link_163 (by decide))) (os_l (so_aload_n d_Sf_link_166 rfl))) (os_n (os_l (so_get (C := R_Pl) (T := F_Pl) (N := 12) (j := 8) in_Pl rfl (by decide) mw_115 d_Sf_link_167)) (os_n (os_l (so_iload d_Sf_link_170)) (os_l (so_iconst d_Sf_link_172 (by decide))))))))) (os_n (os_n (os_n (os_n (os_n (os_l (so_imul d_Sf_link_173)) (os_l (so_iload d_Sf_link_174))) (os_n (os_l (so_iadd d_Sf_link_176)) (os_l (so_iaload d_Sf_link_177)))) (os_n (os_n (os_l (so_istore d_Sf_link_178 (by decide))) (os_l (so_iload d_Sf_link_180))) (os_n (os_l (so_iload d_Sf_link_182)) (os_l (so_ishr d_Sf_link_184))))) (os_n (os_n (os_n (os_l (so_iconst d_Sf_link_185 (by decide))) (os_l (so_iand d_Sf_link_186))) (os_n (os_l (so_ifeq d_Sf_link_187 (by decide))) (os_l (so_iload d_Sf_link_190)))) (os_n (os_n (os_l (so_iflt d_Sf_link_192 (by decide))) (os_l (so_aload_n d_Sf_link_195 rfl))) (os_n (os_l (so_get (C := R_Sf) (T := F_Sf) (N := 10) (j := 5) in_Sf rfl (by decide) mw_287 d_Sf_link_196)) (os_l (so_iload d_Sf_link_199)))))) (os_n (os_n (os_n (os_n (os_l (so_dup2 d_Sf_link_201)) (os_l (so_laload d_Sf_link_202))) (os_n (os_l (so_lconst d_Sf_link_203 (by decide))) (os_l (so_aload_n d_Sf_link_204 rfl)))) (os_n (os_n (os_l (so_get (C := R_Pl) (T := F_Pl) (N := 12) (j := 0) in_Pl rfl (by decide) mw_87 d_Sf_link_205)) (os_l (so_iload d_Sf_link_208))) (os_n (os_l (so_iconst d_Sf_link_210 (by decide))) (os_l (so_ishr d_Sf_link_211))))) (os_n (os_n (os_n (os_l (so_iadd d_Sf_link_212)) (os_l (so_lshl d_Sf_link_213))) (os_n (os_l (so_lor d_Sf_link_214)) (os_l (so_lastore d_Sf_link_215)))) (os_n (os_n (os_l (so_iinc d_Sf_link_216 (by decide) (by decide))) (os_l (so_goto d_Sf_link_219 (by decide)))) (os_n (os_l (so_iinc d_Sf_link_222 (by decide) (by decide))) (os_n (os_l (so_goto d_Sf_link_225 (by decide))) (os_l (so_return rfl d_Sf_link_228))))))))))
abbrev t_St_renew_61 : List UInt8 := 177 :: []
abbrev t_St_renew_58 : List UInt8 := 184 :: 0 :: 50 :: t_St_renew_61
abbrev t_St_renew_57 : List UInt8 := 3 :: t_St_renew_58
abbrev t_St_renew_54 : List UInt8 := 180 :: 0 :: 38 :: t_St_renew_57
abbrev t_St_renew_53 : List UInt8 := 42 :: t_St_renew_54
abbrev t_St_renew_50 : List UInt8 := 184 :: 0 :: 57 :: t_St_renew_53
abbrev t_St_renew_49 : List UInt8 := 9 :: t_St_renew_50
abbrev t_St_renew_46 : List UInt8 := 180 :: 0 :: 34 :: t_St_renew_49
abbrev t_St_renew_45 : List UInt8 := 42 :: t_St_renew_46
abbrev t_St_renew_42 : List UInt8 := 184 :: 0 :: 50 :: t_St_renew_45
abbrev t_St_renew_41 : List UInt8 := 2 :: t_St_renew_42
abbrev t_St_renew_38 : List UInt8 := 180 :: 0 :: 31 :: t_St_renew_41
abbrev t_St_renew_37 : List UInt8 := 42 :: t_St_renew_38
abbrev t_St_renew_34 : List UInt8 := 184 :: 0 :: 50 :: t_St_renew_37
abbrev t_St_renew_33 : List UInt8 := 3 :: t_St_renew_34
abbrev t_St_renew_30 : List UInt8 := 180 :: 0 :: 28 :: t_St_renew_33
abbrev t_St_renew_29 : List UInt8 := 42 :: t_St_renew_30
abbrev t_St_renew_26 : List UInt8 := 184 :: 0 :: 50 :: t_St_renew_29
abbrev t_St_renew_25 : List UInt8 := 3 :: t_St_renew_26
abbrev t_St_renew_22 : List UInt8 := 180 :: 0 :: 25 :: t_St_renew_25
abbrev t_St_renew_21 : List UInt8 := 42 :: t_St_renew_22
abbrev t_St_renew_18 : List UInt8 := 184 :: 0 :: 50 :: t_St_renew_21
abbrev t_St_renew_17 : List UInt8 := 3 :: t_St_renew_18
abbrev t_St_renew_14 : List UInt8 := 180 :: 0 :: 22 :: t_St_renew_17
abbrev t_St_renew_13 : List UInt8 := 42 :: t_St_renew_14
abbrev t_St_renew_10 : List UInt8 := 184 :: 0 :: 50 :: t_St_renew_13
abbrev t_St_renew_9 : List UInt8 := 3 :: t_St_renew_10
abbrev t_St_renew_6 : List UInt8 := 180 :: 0 :: 18 :: t_St_renew_9
abbrev t_St_renew_5 : List UInt8 := 42 :: t_St_renew_6
abbrev t_St_renew_2 : List UInt8 := 181 :: 0 :: 12 :: t_St_renew_5
abbrev t_St_renew_1 : List UInt8 := 43 :: t_St_renew_2
abbrev t_St_renew_0 : List UInt8 := 42 :: t_St_renew_1
theorem a_St_renew_0 : dk_at b_St_renew 0 t_St_renew_0 := dk_start (by decide +kernel)
theorem a_St_renew_1 : dk_at b_St_renew 1 t_St_renew_1 := dk_go 1 a_St_renew_0 rfl
theorem a_St_renew_2 : dk_at b_St_renew 2 t_St_renew_2 := dk_go 1 a_St_renew_1 rfl
theorem a_St_renew_5 : dk_at b_St_renew 5 t_St_renew_5 := dk_go 3 a_St_renew_2 rfl
theorem a_St_renew_6 : dk_at b_St_renew 6 t_St_renew_6 := dk_go 1 a_St_renew_5 rfl
theorem a_St_renew_9 : dk_at b_St_renew 9 t_St_renew_9 := dk_go 3 a_St_renew_6 rfl
theorem a_St_renew_10 : dk_at b_St_renew 10 t_St_renew_10 := dk_go 1 a_St_renew_9 rfl
theorem a_St_renew_13 : dk_at b_St_renew 13 t_St_renew_13 := dk_go 3 a_St_renew_10 rfl
theorem a_St_renew_14 : dk_at b_St_renew 14 t_St_renew_14 := dk_go 1 a_St_renew_13 rfl
theorem a_St_renew_17 : dk_at b_St_renew 17 t_St_renew_17 := dk_go 3 a_St_renew_14 rfl
theorem a_St_renew_18 : dk_at b_St_renew 18 t_St_renew_18 := dk_go 1 a_St_renew_17 rfl
theorem a_St_renew_21 : dk_at b_St_renew 21 t_St_renew_21 := dk_go 3 a_St_renew_18 rfl
theorem a_St_renew_22 : dk_at b_St_renew 22 t_St_renew_22 := dk_go 1 a_St_renew_21 rfl
theorem a_St_renew_25 : dk_at b_St_renew 25 t_St_renew_25 := dk_go 3 a_St_renew_22 rfl
theorem a_St_renew_26 : dk_at b_St_renew 26 t_St_renew_26 := dk_go 1 a_St_renew_25 rfl
theorem a_St_renew_29 : dk_at b_St_renew 29 t_St_renew_29 := dk_go 3 a_St_renew_26 rfl
theorem a_St_renew_30 : dk_at b_St_renew 30 t_St_renew_30 := dk_go 1 a_St_renew_29 rfl
theorem a_St_renew_33 : dk_at b_St_renew 33 t_St_renew_33 := dk_go 3 a_St_renew_30 rfl
theorem a_St_renew_34 : dk_at b_St_renew 34 t_St_renew_34 := dk_go 1 a_St_renew_33 rfl
theorem a_St_renew_37 : dk_at b_St_renew 37 t_St_renew_37 := dk_go 3 a_St_renew_34 rfl
theorem a_St_renew_38 : dk_at b_St_renew 38 t_St_renew_38 := dk_go 1 a_St_renew_37 rfl
theorem a_St_renew_41 : dk_at b_St_renew 41 t_St_renew_41 := dk_go 3 a_St_renew_38 rfl
theorem a_St_renew_42 : dk_at b_St_renew 42 t_St_renew_42 := dk_go 1 a_St_renew_41 rfl
theorem a_St_renew_45 : dk_at b_St_renew 45 t_St_renew_45 := dk_go 3 a_St_renew_42 rfl
theorem a_St_renew_46 : dk_at b_St_renew 46 t_St_renew_46 := dk_go 1 a_St_renew_45 rfl
theorem a_St_renew_49 : dk_at b_St_renew 49 t_St_renew_49 := dk_go 3 a_St_renew_46 rfl
theorem a_St_renew_50 : dk_at b_St_renew 50 t_St_renew_50 := dk_go 1 a_St_renew_49 rfl
theorem a_St_renew_53 : dk_at b_St_renew 53 t_St_renew_53 := dk_go 3 a_St_renew_50 rfl
theorem a_St_renew_54 : dk_at b_St_renew 54 t_St_renew_54 := dk_go 1 a_St_renew_53 rfl
theorem a_St_renew_57 : dk_at b_St_renew 57 t_St_renew_57 := dk_go 3 a_St_renew_54 rfl
theorem a_St_renew_58 : dk_at b_St_renew 58 t_St_renew_58 := dk_go 1 a_St_renew_57 rfl
theorem a_St_renew_61 : dk_at b_St_renew 61 t_St_renew_61 := dk_go 3 a_St_renew_58 rfl
theorem d_St_renew_0 : decode b_St_renew 0 = .ok (.aload_n 0, 1) := dk_0 a_St_renew_0 (dko_42 _)
theorem d_St_renew_1 : decode b_St_renew 1 = .ok (.aload_n 1, 1) := dk_0 a_St_renew_1 (dko_43 _)
theorem d_St_renew_2 : decode b_St_renew 2 = .ok (.putfield 12, 3) := dk_U2 a_St_renew_2 (dko_181 _) rfl
theorem d_St_renew_5 : decode b_St_renew 5 = .ok (.aload_n 0, 1) := dk_0 a_St_renew_5 (dko_42 _)
theorem d_St_renew_6 : decode b_St_renew 6 = .ok (.getfield 18, 3) := dk_U2 a_St_renew_6 (dko_180 _) rfl
theorem d_St_renew_9 : decode b_St_renew 9 = .ok (.iconst 0, 1) := dk_0 a_St_renew_9 (dko_3 _)
theorem d_St_renew_10 : decode b_St_renew 10 = .ok (.invokestatic 50, 3) := dk_U2 a_St_renew_10 (dko_184 _) rfl
theorem d_St_renew_13 : decode b_St_renew 13 = .ok (.aload_n 0, 1) := dk_0 a_St_renew_13 (dko_42 _)
theorem d_St_renew_14 : decode b_St_renew 14 = .ok (.getfield 22, 3) := dk_U2 a_St_renew_14 (dko_180 _) rfl
theorem d_St_renew_17 : decode b_St_renew 17 = .ok (.iconst 0, 1) := dk_0 a_St_renew_17 (dko_3 _)
theorem d_St_renew_18 : decode b_St_renew 18 = .ok (.invokestatic 50, 3) := dk_U2 a_St_renew_18 (dko_184 _) rfl
theorem d_St_renew_21 : decode b_St_renew 21 = .ok (.aload_n 0, 1) := dk_0 a_St_renew_21 (dko_42 _)
theorem d_St_renew_22 : decode b_St_renew 22 = .ok (.getfield 25, 3) := dk_U2 a_St_renew_22 (dko_180 _) rfl
theorem d_St_renew_25 : decode b_St_renew 25 = .ok (.iconst 0, 1) := dk_0 a_St_renew_25 (dko_3 _)
theorem d_St_renew_26 : decode b_St_renew 26 = .ok (.invokestatic 50, 3) := dk_U2 a_St_renew_26 (dko_184 _) rfl
theorem d_St_renew_29 : decode b_St_renew 29 = .ok (.aload_n 0, 1) := dk_0 a_St_renew_29 (dko_42 _)
theorem d_St_renew_30 : decode b_St_renew 30 = .ok (.getfield 28, 3) := dk_U2 a_St_renew_30 (dko_180 _) rfl
theorem d_St_renew_33 : decode b_St_renew 33 = .ok (.iconst 0, 1) := dk_0 a_St_renew_33 (dko_3 _)
theorem d_St_renew_34 : decode b_St_renew 34 = .ok (.invokestatic 50, 3) := dk_U2 a_St_renew_34 (dko_184 _) rfl
theorem d_St_renew_37 : decode b_St_renew 37 = .ok (.aload_n 0, 1) := dk_0 a_St_renew_37 (dko_42 _)
theorem d_St_renew_38 : decode b_St_renew 38 = .ok (.getfield 31, 3) := dk_U2 a_St_renew_38 (dko_180 _) rfl
theorem d_St_renew_41 : decode b_St_renew 41 = .ok (.iconst (-1), 1) := dk_0 a_St_renew_41 (dko_2 _)
theorem d_St_renew_42 : decode b_St_renew 42 = .ok (.invokestatic 50, 3) := dk_U2 a_St_renew_42 (dko_184 _) rfl
theorem d_St_renew_45 : decode b_St_renew 45 = .ok (.aload_n 0, 1) := dk_0 a_St_renew_45 (dko_42 _)
theorem d_St_renew_46 : decode b_St_renew 46 = .ok (.getfield 34, 3) := dk_U2 a_St_renew_46 (dko_180 _) rfl
theorem d_St_renew_49 : decode b_St_renew 49 = .ok (.lconst 0, 1) := dk_0 a_St_renew_49 (dko_9 _)
theorem d_St_renew_50 : decode b_St_renew 50 = .ok (.invokestatic 57, 3) := dk_U2 a_St_renew_50 (dko_184 _) rfl
theorem d_St_renew_53 : decode b_St_renew 53 = .ok (.aload_n 0, 1) := dk_0 a_St_renew_53 (dko_42 _)
theorem d_St_renew_54 : decode b_St_renew 54 = .ok (.getfield 38, 3) := dk_U2 a_St_renew_54 (dko_180 _) rfl
theorem d_St_renew_57 : decode b_St_renew 57 = .ok (.iconst 0, 1) := dk_0 a_St_renew_57 (dko_3 _)
theorem d_St_renew_58 : decode b_St_renew 58 = .ok (.invokestatic 50, 3) := dk_U2 a_St_renew_58 (dko_184 _) rfl
theorem d_St_renew_61 : decode b_St_renew 61 = .ok (.return_, 1) := dk_0 a_St_renew_61 (dko_177 _)
set_option maxHeartbeats 4000000 in
set_option maxRecDepth 100000 in
theorem ok_St_renew (pc : Nat) : OpS mt mi_St_renew pc (cs_St_renew pc) := (os_n (os_n (os_n (os_n (os_n (os_l (so_aload_n d_St_renew_0 rfl)) (os_l (so_aload_n d_St_renew_1 rfl))) (os_n (os_l (so_putR (D := "BreweryHouse$Plant") (C := R_St) (T := F_St) (N := 12) (j := 0) in_St t_St_ok n_St rfl (by decide) mw_149 rfl (by decide +kernel) d_St_renew_2)) (os_l (so_aload_n d_St_renew_5 rfl)))) (os_n (os_n (os_l (so_get (C := R_St) (T := F_St) (N := 12) (j := 2) in_St rfl (by decide) mw_157 d_St_renew_6)) (os_l (so_iconst d_St_renew_9 (by decide)))) (os_n (os_l (so_callS (iv := mi_Ar_fill0) rfl mw_145 mw_146 mw_6 mw_147 ⟨by decide +kernel, by decide +kernel, by decide +kernel⟩ (by decide) d_St_renew_10)) (os_l (so_aload_n d_St_renew_13 rfl))))) (os_n (os_n (os_n (os_l (so_get (C := R_St) (T := F_St) (N := 12) (j := 3) in_St rfl (by decide) mw_162 d_St_renew_14)) (os_l (so_iconst d_St_renew_17 (by decide)))) (os_n (os_l (so_callS (iv := mi_Ar_fill0) rfl mw_145 mw_146 mw_6 mw_147 ⟨by decide +kernel, by decide +kernel, by decide +kernel⟩ (by decide) d_St_renew_18)) (os_l (so_aload_n d_St_renew_21 rfl)))) (os_n (os_n (os_l (so_get (C := R_St) (T := F_St) (N := 12) (j := 4) in_St rfl (by decide) mw_167 d_St_renew_22)) (os_l (so_iconst d_St_renew_25 (by decide)))) (os_n (os_l (so_callS (iv := mi_Ar_fill0) rfl mw_145 mw_146 mw_6 mw_147 ⟨by decide +kernel, by decide +kernel, by decide +kernel⟩ (by decide) d_St_renew_26)) (os_l (so_aload_n d_St_renew_29 rfl)))))) (os_n (os_n (os_n (os_n (os_l (so_get (C := R_St) (T := F_St) (N := 12) (j := 5) in_St rfl (by decide) mw_171 d_St_renew_30)) (os_l (so_iconst d_St_renew_33 (by decide)))) (os_n (os_l (so_callS (iv := mi_Ar_fill0) rfl mw_145 mw_146 mw_6 mw_147 ⟨by decide +kernel, by decide +kernel, by decide +kernel⟩ (by decide) d_St_renew_34)) (os_l (so_aload_n d_St_renew_37 rfl)))) (os_n (os_n (os_l (so_get (C := R_St) (T := F_St) (N := 12) (j := 6) in_St rfl (by decide) mw_173 d_St_renew_38)) (os_l (so_iconst d_St_renew_41 (by decide)))) (os_n (os_l (so_callS (iv := mi_Ar_fill0) rfl mw_145 mw_146 mw_6 mw_147 ⟨by decide +kernel, by decide +kernel, by decide +kernel⟩ (by decide) d_St_renew_42)) (os_l (so_aload_n d_St_renew_45 rfl))))) (os_n (os_n (os_n (os_l (so_get (C := R_St) (T := F_St) (N := 12) (j := 7) in_St rfl (by decide) mw_174 d_St_renew_46)) (os_l (so_lconst d_St_renew_49 (by decide)))) (os_n (os_l (so_callS (iv := mi_Ar_fill1) rfl mw_1020 mw_1021 mw_6 mw_1022 ⟨by decide +kernel, by decide +kernel, by decide +kernel⟩ (by decide) d_St_renew_50)) (os_l (so_aload_n d_St_renew_53 rfl)))) (os_n (os_n (os_l (so_get (C := R_St) (T := F_St) (N := 12) (j := 8) in_St rfl (by decide) mw_175 d_St_renew_54)) (os_l (so_iconst d_St_renew_57 (by decide)))) (os_n (os_l (so_callS (iv := mi_Ar_fill0) rfl mw_145 mw_146 mw_6 mw_147 ⟨by decide +kernel, by decide +kernel, by decide +kernel⟩ (by decide) d_St_renew_58)) (os_l (so_return rfl d_St_renew_61)))))))
abbrev t_St_isTank_34 : List UInt8 := 172 :: []
abbrev t_St_isTank_33 : List UInt8 := 3 :: t_St_isTank_34
abbrev t_St_isTank_30 : List UInt8 := 167 :: 0 :: 4 :: t_St_isTank_33
abbrev t_St_isTank_29 : List UInt8 := 4 :: t_St_isTank_30
abbrev t_St_isTank_26 : List UInt8 := 160 :: 0 :: 7 :: t_St_isTank_29
abbrev t_St_isTank_24 : List UInt8 := 16 :: 9 :: t_St_isTank_26
abbrev t_St_isTank_23 : List UInt8 := 46 :: t_St_isTank_24
abbrev t_St_isTank_22 : List UInt8 := 27 :: t_St_isTank_23
abbrev t_St_isTank_19 : List UInt8 := 180 :: 0 :: 64 :: t_St_isTank_22
abbrev t_St_isTank_16 : List UInt8 := 180 :: 0 :: 12 :: t_St_isTank_19
abbrev t_St_isTank_15 : List UInt8 := 42 :: t_St_isTank_16
abbrev t_St_isTank_12 : List UInt8 := 162 :: 0 :: 21 :: t_St_isTank_15
abbrev t_St_isTank_9 : List UInt8 := 180 :: 0 :: 60 :: t_St_isTank_12
abbrev t_St_isTank_6 : List UInt8 := 180 :: 0 :: 12 :: t_St_isTank_9
abbrev t_St_isTank_5 : List UInt8 := 42 :: t_St_isTank_6
abbrev t_St_isTank_4 : List UInt8 := 27 :: t_St_isTank_5
abbrev t_St_isTank_1 : List UInt8 := 155 :: 0 :: 32 :: t_St_isTank_4
abbrev t_St_isTank_0 : List UInt8 := 27 :: t_St_isTank_1
theorem a_St_isTank_0 : dk_at b_St_isTank 0 t_St_isTank_0 := dk_start (by decide +kernel)
theorem a_St_isTank_1 : dk_at b_St_isTank 1 t_St_isTank_1 := dk_go 1 a_St_isTank_0 rfl
theorem a_St_isTank_4 : dk_at b_St_isTank 4 t_St_isTank_4 := dk_go 3 a_St_isTank_1 rfl
theorem a_St_isTank_5 : dk_at b_St_isTank 5 t_St_isTank_5 := dk_go 1 a_St_isTank_4 rfl
theorem a_St_isTank_6 : dk_at b_St_isTank 6 t_St_isTank_6 := dk_go 1 a_St_isTank_5 rfl
theorem a_St_isTank_9 : dk_at b_St_isTank 9 t_St_isTank_9 := dk_go 3 a_St_isTank_6 rfl
theorem a_St_isTank_12 : dk_at b_St_isTank 12 t_St_isTank_12 := dk_go 3 a_St_isTank_9 rfl
theorem a_St_isTank_15 : dk_at b_St_isTank 15 t_St_isTank_15 := dk_go 3 a_St_isTank_12 rfl
theorem a_St_isTank_16 : dk_at b_St_isTank 16 t_St_isTank_16 := dk_go 1 a_St_isTank_15 rfl
theorem a_St_isTank_19 : dk_at b_St_isTank 19 t_St_isTank_19 := dk_go 3 a_St_isTank_16 rfl
theorem a_St_isTank_22 : dk_at b_St_isTank 22 t_St_isTank_22 := dk_go 3 a_St_isTank_19 rfl
theorem a_St_isTank_23 : dk_at b_St_isTank 23 t_St_isTank_23 := dk_go 1 a_St_isTank_22 rfl
theorem a_St_isTank_24 : dk_at b_St_isTank 24 t_St_isTank_24 := dk_go 1 a_St_isTank_23 rfl
theorem a_St_isTank_26 : dk_at b_St_isTank 26 t_St_isTank_26 := dk_go 2 a_St_isTank_24 rfl
theorem a_St_isTank_29 : dk_at b_St_isTank 29 t_St_isTank_29 := dk_go 3 a_St_isTank_26 rfl
theorem a_St_isTank_30 : dk_at b_St_isTank 30 t_St_isTank_30 := dk_go 1 a_St_isTank_29 rfl
theorem a_St_isTank_33 : dk_at b_St_isTank 33 t_St_isTank_33 := dk_go 3 a_St_isTank_30 rfl
theorem a_St_isTank_34 : dk_at b_St_isTank 34 t_St_isTank_34 := dk_go 1 a_St_isTank_33 rfl
theorem d_St_isTank_0 : decode b_St_isTank 0 = .ok (.iload_n 1, 1) := dk_0 a_St_isTank_0 (dko_27 _)
theorem d_St_isTank_1 : decode b_St_isTank 1 = .ok (.ifCond .lt 32, 3) := dk_S2 a_St_isTank_1 (dko_155 _) (by decide +kernel)
theorem d_St_isTank_4 : decode b_St_isTank 4 = .ok (.iload_n 1, 1) := dk_0 a_St_isTank_4 (dko_27 _)
theorem d_St_isTank_5 : decode b_St_isTank 5 = .ok (.aload_n 0, 1) := dk_0 a_St_isTank_5 (dko_42 _)
theorem d_St_isTank_6 : decode b_St_isTank 6 = .ok (.getfield 12, 3) := dk_U2 a_St_isTank_6 (dko_180 _) rfl
theorem d_St_isTank_9 : decode b_St_isTank 9 = .ok (.getfield 60, 3) := dk_U2 a_St_isTank_9 (dko_180 _) rfl
theorem d_St_isTank_12 : decode b_St_isTank 12 = .ok (.if_icmp .ge 21, 3) := dk_S2 a_St_isTank_12 (dko_162 _) (by decide +kernel)
theorem d_St_isTank_15 : decode b_St_isTank 15 = .ok (.aload_n 0, 1) := dk_0 a_St_isTank_15 (dko_42 _)
theorem d_St_isTank_16 : decode b_St_isTank 16 = .ok (.getfield 12, 3) := dk_U2 a_St_isTank_16 (dko_180 _) rfl
theorem d_St_isTank_19 : decode b_St_isTank 19 = .ok (.getfield 64, 3) := dk_U2 a_St_isTank_19 (dko_180 _) rfl
theorem d_St_isTank_22 : decode b_St_isTank 22 = .ok (.iload_n 1, 1) := dk_0 a_St_isTank_22 (dko_27 _)
theorem d_St_isTank_23 : decode b_St_isTank 23 = .ok (.iaload, 1) := dk_0 a_St_isTank_23 (dko_46 _)
theorem d_St_isTank_24 : decode b_St_isTank 24 = .ok (.bipush 9, 2) := dk_S1 a_St_isTank_24 (dko_16 _) (by decide +kernel)
theorem d_St_isTank_26 : decode b_St_isTank 26 = .ok (.if_icmp .ne 7, 3) := dk_S2 a_St_isTank_26 (dko_160 _) (by decide +kernel)
theorem d_St_isTank_29 : decode b_St_isTank 29 = .ok (.iconst 1, 1) := dk_0 a_St_isTank_29 (dko_4 _)
theorem d_St_isTank_30 : decode b_St_isTank 30 = .ok (.goto 4, 3) := dk_S2 a_St_isTank_30 (dko_167 _) (by decide +kernel)
theorem d_St_isTank_33 : decode b_St_isTank 33 = .ok (.iconst 0, 1) := dk_0 a_St_isTank_33 (dko_3 _)
theorem d_St_isTank_34 : decode b_St_isTank 34 = .ok (.ireturn, 1) := dk_0 a_St_isTank_34 (dko_172 _)
set_option maxHeartbeats 4000000 in
set_option maxRecDepth 100000 in
theorem ok_St_isTank (pc : Nat) : OpS mt mi_St_isTank pc (cs_St_isTank pc) := (os_n (os_n (os_n (os_n (os_l (so_iload_n d_St_isTank_0 rfl)) (os_l (so_iflt d_St_isTank_1 (by decide)))) (os_n (os_l (so_iload_n d_St_isTank_4 rfl)) (os_l (so_aload_n d_St_isTank_5 rfl)))) (os_n (os_n (os_l (so_get (C := R_St) (T := F_St) (N := 12) (j := 0) in_St rfl (by decide) mw_149 d_St_isTank_6)) (os_l (so_get (C := R_Pl) (T := F_Pl) (N := 12) (j := 0) in_Pl rfl (by decide) mw_88 d_St_isTank_9))) (os_n (os_l (so_icge d_St_isTank_12 (by decide))) (os_n (os_l (so_aload_n d_St_isTank_15 rfl)) (os_l (so_get (C := R_St) (T := F_St) (N := 12) (j := 0) in_St rfl (by decide) mw_149 d_St_isTank_16)))))) (os_n (os_n (os_n (os_l (so_get (C := R_Pl) (T := F_Pl) (N := 12) (j := 2) in_Pl rfl (by decide) mw_98 d_St_isTank_19)) (os_l (so_iload_n d_St_isTank_22 rfl))) (os_n (os_l (so_iaload d_St_isTank_23)) (os_l (so_bipush d_St_isTank_24 (by decide))))) (os_n (os_n (os_l (so_icne d_St_isTank_26 (by decide))) (os_l (so_iconst d_St_isTank_29 (by decide)))) (os_n (os_l (so_goto d_St_isTank_30 (by decide))) (os_n (os_l (so_iconst d_St_isTank_33 (by decide))) (os_l (so_zreturn rfl d_St_isTank_34)))))))
abbrev t_St_isValve_34 : List UInt8 := 172 :: []
abbrev t_St_isValve_33 : List UInt8 := 3 :: t_St_isValve_34
abbrev t_St_isValve_30 : List UInt8 := 167 :: 0 :: 4 :: t_St_isValve_33
abbrev t_St_isValve_29 : List UInt8 := 4 :: t_St_isValve_30
abbrev t_St_isValve_26 : List UInt8 := 162 :: 0 :: 7 :: t_St_isValve_29
abbrev t_St_isValve_24 : List UInt8 := 16 :: 8 :: t_St_isValve_26
abbrev t_St_isValve_23 : List UInt8 := 46 :: t_St_isValve_24
abbrev t_St_isValve_22 : List UInt8 := 27 :: t_St_isValve_23
abbrev t_St_isValve_19 : List UInt8 := 180 :: 0 :: 64 :: t_St_isValve_22
abbrev t_St_isValve_16 : List UInt8 := 180 :: 0 :: 12 :: t_St_isValve_19
abbrev t_St_isValve_15 : List UInt8 := 42 :: t_St_isValve_16
abbrev t_St_isValve_12 : List UInt8 := 162 :: 0 :: 21 :: t_St_isValve_15
abbrev t_St_isValve_9 : List UInt8 := 180 :: 0 :: 60 :: t_St_isValve_12
abbrev t_St_isValve_6 : List UInt8 := 180 :: 0 :: 12 :: t_St_isValve_9
abbrev t_St_isValve_5 : List UInt8 := 42 :: t_St_isValve_6
abbrev t_St_isValve_4 : List UInt8 := 27 :: t_St_isValve_5
abbrev t_St_isValve_1 : List UInt8 := 155 :: 0 :: 32 :: t_St_isValve_4
abbrev t_St_isValve_0 : List UInt8 := 27 :: t_St_isValve_1
theorem a_St_isValve_0 : dk_at b_St_isValve 0 t_St_isValve_0 := dk_start (by decide +kernel)
theorem a_St_isValve_1 : dk_at b_St_isValve 1 t_St_isValve_1 := dk_go 1 a_St_isValve_0 rfl
theorem a_St_isValve_4 : dk_at b_St_isValve 4 t_St_isValve_4 := dk_go 3 a_St_isValve_1 rfl
theorem a_St_isValve_5 : dk_at b_St_isValve 5 t_St_isValve_5 := dk_go 1 a_St_isValve_4 rfl
theorem a_St_isValve_6 : dk_at b_St_isValve 6 t_St_isValve_6 := dk_go 1 a_St_isValve_5 rfl
theorem a_St_isValve_9 : dk_at b_St_isValve 9 t_St_isValve_9 := dk_go 3 a_St_isValve_6 rfl
theorem a_St_isValve_12 : dk_at b_St_isValve 12 t_St_isValve_12 := dk_go 3 a_St_isValve_9 rfl
theorem a_St_isValve_15 : dk_at b_St_isValve 15 t_St_isValve_15 := dk_go 3 a_St_isValve_12 rfl
theorem a_St_isValve_16 : dk_at b_St_isValve 16 t_St_isValve_16 := dk_go 1 a_St_isValve_15 rfl
theorem a_St_isValve_19 : dk_at b_St_isValve 19 t_St_isValve_19 := dk_go 3 a_St_isValve_16 rfl
theorem a_St_isValve_22 : dk_at b_St_isValve 22 t_St_isValve_22 := dk_go 3 a_St_isValve_19 rfl
theorem a_St_isValve_23 : dk_at b_St_isValve 23 t_St_isValve_23 := dk_go 1 a_St_isValve_22 rfl
theorem a_St_isValve_24 : dk_at b_St_isValve 24 t_St_isValve_24 := dk_go 1 a_St_isValve_23 rfl
theorem a_St_isValve_26 : dk_at b_St_isValve 26 t_St_isValve_26 := dk_go 2 a_St_isValve_24 rfl
theorem a_St_isValve_29 : dk_at b_St_isValve 29 t_St_isValve_29 := dk_go 3 a_St_isValve_26 rfl
theorem a_St_isValve_30 : dk_at b_St_isValve 30 t_St_isValve_30 := dk_go 1 a_St_isValve_29 rfl
theorem a_St_isValve_33 : dk_at b_St_isValve 33 t_St_isValve_33 := dk_go 3 a_St_isValve_30 rfl
theorem a_St_isValve_34 : dk_at b_St_isValve 34 t_St_isValve_34 := dk_go 1 a_St_isValve_33 rfl
theorem d_St_isValve_0 : decode b_St_isValve 0 = .ok (.iload_n 1, 1) := dk_0 a_St_isValve_0 (dko_27 _)
theorem d_St_isValve_1 : decode b_St_isValve 1 = .ok (.ifCond .lt 32, 3) := dk_S2 a_St_isValve_1 (dko_155 _) (by decide +kernel)
theorem d_St_isValve_4 : decode b_St_isValve 4 = .ok (.iload_n 1, 1) := dk_0 a_St_isValve_4 (dko_27 _)
theorem d_St_isValve_5 : decode b_St_isValve 5 = .ok (.aload_n 0, 1) := dk_0 a_St_isValve_5 (dko_42 _)
theorem d_St_isValve_6 : decode b_St_isValve 6 = .ok (.getfield 12, 3) := dk_U2 a_St_isValve_6 (dko_180 _) rfl
theorem d_St_isValve_9 : decode b_St_isValve 9 = .ok (.getfield 60, 3) := dk_U2 a_St_isValve_9 (dko_180 _) rfl
theorem d_St_isValve_12 : decode b_St_isValve 12 = .ok (.if_icmp .ge 21, 3) := dk_S2 a_St_isValve_12 (dko_162 _) (by decide +kernel)
theorem d_St_isValve_15 : decode b_St_isValve 15 = .ok (.aload_n 0, 1) := dk_0 a_St_isValve_15 (dko_42 _)
theorem d_St_isValve_16 : decode b_St_isValve 16 = .ok (.getfield 12, 3) := dk_U2 a_St_isValve_16 (dko_180 _) rfl
theorem d_St_isValve_19 : decode b_St_isValve 19 = .ok (.getfield 64, 3) := dk_U2 a_St_isValve_19 (dko_180 _) rfl
theorem d_St_isValve_22 : decode b_St_isValve 22 = .ok (.iload_n 1, 1) := dk_0 a_St_isValve_22 (dko_27 _)
theorem d_St_isValve_23 : decode b_St_isValve 23 = .ok (.iaload, 1) := dk_0 a_St_isValve_23 (dko_46 _)
theorem d_St_isValve_24 : decode b_St_isValve 24 = .ok (.bipush 8, 2) := dk_S1 a_St_isValve_24 (dko_16 _) (by decide +kernel)
theorem d_St_isValve_26 : decode b_St_isValve 26 = .ok (.if_icmp .ge 7, 3) := dk_S2 a_St_isValve_26 (dko_162 _) (by decide +kernel)
theorem d_St_isValve_29 : decode b_St_isValve 29 = .ok (.iconst 1, 1) := dk_0 a_St_isValve_29 (dko_4 _)
theorem d_St_isValve_30 : decode b_St_isValve 30 = .ok (.goto 4, 3) := dk_S2 a_St_isValve_30 (dko_167 _) (by decide +kernel)
theorem d_St_isValve_33 : decode b_St_isValve 33 = .ok (.iconst 0, 1) := dk_0 a_St_isValve_33 (dko_3 _)
theorem d_St_isValve_34 : decode b_St_isValve 34 = .ok (.ireturn, 1) := dk_0 a_St_isValve_34 (dko_172 _)
set_option maxHeartbeats 4000000 in
set_option maxRecDepth 100000 in
theorem ok_St_isValve (pc : Nat) : OpS mt mi_St_isValve pc (cs_St_isValve pc) := (os_n (os_n (os_n (os_n (os_l (so_iload_n d_St_isValve_0 rfl)) (os_l (so_iflt d_St_isValve_1 (by decide)))) (os_n (os_l (so_iload_n d_St_isValve_4 rfl)) (os_l (so_aload_n d_St_isValve_5 rfl)))) (os_n (os_n (os_l (so_get (C := R_St) (T := F_St) (N := 12) (j := 0) in_St rfl (by decide) mw_149 d_St_isValve_6)) (os_l (so_get (C := R_Pl) (T := F_Pl) (N := 12) (j := 0) in_Pl rfl (by decide) mw_88 d_St_isValve_9))) (os_n (os_l (so_icge d_St_isValve_12 (by decide))) (os_n (os_l (so_aload_n d_St_isValve_15 rfl)) (os_l (so_get (C := R_St) (T := F_St) (N := 12) (j := 0) in_St rfl (by decide) mw_149 d_St_isValve_16)))))) (os_n (os_n (os_n (os_l (so_get (C := R_Pl) (T := F_Pl) (N := 12) (j := 2) in_Pl rfl (by decide) mw_98 d_St_isValve_19)) (os_l (so_iload_n d_St_isValve_22 rfl))) (os_n (os_l (so_iaload d_St_isValve_23)) (os_l (so_bipush d_St_isValve_24 (by decide))))) (os_n (os_n (os_l (so_icge d_St_isValve_26 (by decide))) (os_l (so_iconst d_St_isValve_29 (by decide)))) (os_n (os_l (so_goto d_St_isValve_30 (by decide))) (os_n (os_l (so_iconst d_St_isValve_33 (by decide))) (os_l (so_zreturn rfl d_St_isValve_34)))))))
abbrev t_St_isPipe_35 : List UInt8 := 172 :: []
abbrev t_St_isPipe_34 : List UInt8 := 3 :: t_St_isPipe_35
abbrev t_St_isPipe_31 : List UInt8 := 167 :: 0 :: 4 :: t_St_isPipe_34
abbrev t_St_isPipe_30 : List UInt8 := 4 :: t_St_isPipe_31
abbrev t_St_isPipe_27 : List UInt8 := 162 :: 0 :: 7 :: t_St_isPipe_30
abbrev t_St_isPipe_26 : List UInt8 := 96 :: t_St_isPipe_27
abbrev t_St_isPipe_23 : List UInt8 := 180 :: 0 :: 67 :: t_St_isPipe_26
abbrev t_St_isPipe_20 : List UInt8 := 180 :: 0 :: 12 :: t_St_isPipe_23
abbrev t_St_isPipe_19 : List UInt8 := 42 :: t_St_isPipe_20
abbrev t_St_isPipe_16 : List UInt8 := 180 :: 0 :: 60 :: t_St_isPipe_19
abbrev t_St_isPipe_13 : List UInt8 := 180 :: 0 :: 12 :: t_St_isPipe_16
abbrev t_St_isPipe_12 : List UInt8 := 42 :: t_St_isPipe_13
abbrev t_St_isPipe_11 : List UInt8 := 27 :: t_St_isPipe_12
abbrev t_St_isPipe_8 : List UInt8 := 161 :: 0 :: 26 :: t_St_isPipe_11
abbrev t_St_isPipe_5 : List UInt8 := 180 :: 0 :: 60 :: t_St_isPipe_8
abbrev t_St_isPipe_2 : List UInt8 := 180 :: 0 :: 12 :: t_St_isPipe_5
abbrev t_St_isPipe_1 : List UInt8 := 42 :: t_St_isPipe_2
abbrev t_St_isPipe_0 : List UInt8 := 27 :: t_St_isPipe_1
theorem a_St_isPipe_0 : dk_at b_St_isPipe 0 t_St_isPipe_0 := dk_start (by decide +kernel)
theorem a_St_isPipe_1 : dk_at b_St_isPipe 1 t_St_isPipe_1 := dk_go 1 a_St_isPipe_0 rfl
theorem a_St_isPipe_2 : dk_at b_St_isPipe 2 t_St_isPipe_2 := dk_go 1 a_St_isPipe_1 rfl
theorem a_St_isPipe_5 : dk_at b_St_isPipe 5 t_St_isPipe_5 := dk_go 3 a_St_isPipe_2 rfl
theorem a_St_isPipe_8 : dk_at b_St_isPipe 8 t_St_isPipe_8 := dk_go 3 a_St_isPipe_5 rfl
theorem a_St_isPipe_11 : dk_at b_St_isPipe 11 t_St_isPipe_11 := dk_go 3 a_St_isPipe_8 rfl
theorem a_St_isPipe_12 : dk_at b_St_isPipe 12 t_St_isPipe_12 := dk_go 1 a_St_isPipe_11 rfl
theorem a_St_isPipe_13 : dk_at b_St_isPipe 13 t_St_isPipe_13 := dk_go 1 a_St_isPipe_12 rfl
theorem a_St_isPipe_16 : dk_at b_St_isPipe 16 t_St_isPipe_16 := dk_go 3 a_St_isPipe_13 rfl
theorem a_St_isPipe_19 : dk_at b_St_isPipe 19 t_St_isPipe_19 := dk_go 3 a_St_isPipe_16 rfl
theorem a_St_isPipe_20 : dk_at b_St_isPipe 20 t_St_isPipe_20 := dk_go 1 a_St_isPipe_19 rfl
theorem a_St_isPipe_23 : dk_at b_St_isPipe 23 t_St_isPipe_23 := dk_go 3 a_St_isPipe_20 rfl
theorem a_St_isPipe_26 : dk_at b_St_isPipe 26 t_St_isPipe_26 := dk_go 3 a_St_isPipe_23 rfl
theorem a_St_isPipe_27 : dk_at b_St_isPipe 27 t_St_isPipe_27 := dk_go 1 a_St_isPipe_26 rfl
theorem a_St_isPipe_30 : dk_at b_St_isPipe 30 t_St_isPipe_30 := dk_go 3 a_St_isPipe_27 rfl
theorem a_St_isPipe_31 : dk_at b_St_isPipe 31 t_St_isPipe_31 := dk_go 1 a_St_isPipe_30 rfl
theorem a_St_isPipe_34 : dk_at b_St_isPipe 34 t_St_isPipe_34 := dk_go 3 a_St_isPipe_31 rfl
theorem a_St_isPipe_35 : dk_at b_St_isPipe 35 t_St_isPipe_35 := dk_go 1 a_St_isPipe_34 rfl
theorem d_St_isPipe_0 : decode b_St_isPipe 0 = .ok (.iload_n 1, 1) := dk_0 a_St_isPipe_0 (dko_27 _)
theorem d_St_isPipe_1 : decode b_St_isPipe 1 = .ok (.aload_n 0, 1) := dk_0 a_St_isPipe_1 (dko_42 _)
theorem d_St_isPipe_2 : decode b_St_isPipe 2 = .ok (.getfield 12, 3) := dk_U2 a_St_isPipe_2 (dko_180 _) rfl
theorem d_St_isPipe_5 : decode b_St_isPipe 5 = .ok (.getfield 60, 3) := dk_U2 a_St_isPipe_5 (dko_180 _) rfl
theorem d_St_isPipe_8 : decode b_St_isPipe 8 = .ok (.if_icmp .lt 26, 3) := dk_S2 a_St_isPipe_8 (dko_161 _) (by decide +kernel)
theorem d_St_isPipe_11 : decode b_St_isPipe 11 = .ok (.iload_n 1, 1) := dk_0 a_St_isPipe_11 (dko_27 _)
theorem d_St_isPipe_12 : decode b_St_isPipe 12 = .ok (.aload_n 0, 1) := dk_0 a_St_isPipe_12 (dko_42 _)
theorem d_St_isPipe_13 : decode b_St_isPipe 13 = .ok (.getfield 12, 3) := dk_U2 a_St_isPipe_13 (dko_180 _) rfl
theorem d_St_isPipe_16 : decode b_St_isPipe 16 = .ok (.getfield 60, 3) := dk_U2 a_St_isPipe_16 (dko_180 _) rfl
theorem d_St_isPipe_19 : decode b_St_isPipe 19 = .ok (.aload_n 0, 1) := dk_0 a_St_isPipe_19 (dko_42 _)
theorem d_St_isPipe_20 : decode b_St_isPipe 20 = .ok (.getfield 12, 3) := dk_U2 a_St_isPipe_20 (dko_180 _) rfl
theorem d_St_isPipe_23 : decode b_St_isPipe 23 = .ok (.getfield 67, 3) := dk_U2 a_St_isPipe_23 (dko_180 _) rfl
theorem d_St_isPipe_26 : decode b_St_isPipe 26 = .ok (.iadd, 1) := dk_0 a_St_isPipe_26 (dko_96 _)
theorem d_St_isPipe_27 : decode b_St_isPipe 27 = .ok (.if_icmp .ge 7, 3) := dk_S2 a_St_isPipe_27 (dko_162 _) (by decide +kernel)
theorem d_St_isPipe_30 : decode b_St_isPipe 30 = .ok (.iconst 1, 1) := dk_0 a_St_isPipe_30 (dko_4 _)
theorem d_St_isPipe_31 : decode b_St_isPipe 31 = .ok (.goto 4, 3) := dk_S2 a_St_isPipe_31 (dko_167 _) (by decide +kernel)
theorem d_St_isPipe_34 : decode b_St_isPipe 34 = .ok (.iconst 0, 1) := dk_0 a_St_isPipe_34 (dko_3 _)
theorem d_St_isPipe_35 : decode b_St_isPipe 35 = .ok (.ireturn, 1) := dk_0 a_St_isPipe_35 (dko_172 _)
set_option maxHeartbeats 4000000 in
set_option maxRecDepth 100000 in
theorem ok_St_isPipe (pc : Nat) : OpS mt mi_St_isPipe pc (cs_St_isPipe pc) := (os_n (os_n (os_n (os_n (os_l (so_iload_n d_St_isPipe_0 rfl)) (os_l (so_aload_n d_St_isPipe_1 rfl))) (os_n (os_l (so_get (C := R_St) (T := F_St) (N := 12) (j := 0) in_St rfl (by decide) mw_149 d_St_isPipe_2)) (os_l (so_get (C := R_Pl) (T := F_Pl) (N := 12) (j := 0) in_Pl rfl (by decide) mw_88 d_St_isPipe_5)))) (os_n (os_n (os_l (so_iclt d_St_isPipe_8 (by decide))) (os_l (so_iload_n d_St_isPipe_11 rfl))) (os_n (os_l (so_aload_n d_St_isPipe_12 rfl)) (os_n (os_l (so_get (C := R_St) (T := F_St) (N := 12) (j := 0) in_St rfl (by decide) mw_149 d_St_isPipe_13)) (os_l (so_get (C := R_Pl) (T := F_Pl) (N := 12) (j := 0) in_Pl rfl (by decide) mw_88 d_St_isPipe_16)))))) (os_n (os_n (os_n (os_l (so_aload_n d_St_isPipe_19 rfl)) (os_l (so_get (C := R_St) (T := F_St) (N := 12) (j := 0) in_St rfl (by decide) mw_149 d_St_isPipe_20))) (os_n (os_l (so_get (C := R_Pl) (T := F_Pl) (N := 12) (j := 1) in_Pl rfl (by decide) mw_94 d_St_isPipe_23)) (os_l (so_iadd d_St_isPipe_26)))) (os_n (os_n (os_l (so_icge d_St_isPipe_27 (by decide))) (os_l (so_iconst d_St_isPipe_30 (by decide)))) (os_n (os_l (so_goto d_St_isPipe_31 (by decide))) (os_n (os_l (so_iconst d_St_isPipe_34 (by decide))) (os_l (so_zreturn rfl d_St_isPipe_35)))))))
abbrev t_St_isHolder_21 : List UInt8 := 172 :: []
abbrev t_St_isHolder_20 : List UInt8 := 3 :: t_St_isHolder_21
abbrev t_St_isHolder_17 : List UInt8 := 167 :: 0 :: 4 :: t_St_isHolder_20
abbrev t_St_isHolder_16 : List UInt8 := 4 :: t_St_isHolder_17
abbrev t_St_isHolder_13 : List UInt8 := 153 :: 0 :: 7 :: t_St_isHolder_16
abbrev t_St_isHolder_10 : List UInt8 := 182 :: 0 :: 74 :: t_St_isHolder_13
abbrev t_St_isHolder_9 : List UInt8 := 27 :: t_St_isHolder_10
abbrev t_St_isHolder_8 : List UInt8 := 42 :: t_St_isHolder_9
abbrev t_St_isHolder_5 : List UInt8 := 154 :: 0 :: 11 :: t_St_isHolder_8
abbrev t_St_isHolder_2 : List UInt8 := 182 :: 0 :: 70 :: t_St_isHolder_5
abbrev t_St_isHolder_1 : List UInt8 := 27 :: t_St_isHolder_2
abbrev t_St_isHolder_0 : List UInt8 := 42 :: t_St_isHolder_1
theorem a_St_isHolder_0 : dk_at b_St_isHolder 0 t_St_isHolder_0 := dk_start (by decide +kernel)
theorem a_St_isHolder_1 : dk_at b_St_isHolder 1 t_St_isHolder_1 := dk_go 1 a_St_isHolder_0 rfl
theorem a_St_isHolder_2 : dk_at b_St_isHolder 2 t_St_isHolder_2 := dk_go 1 a_St_isHolder_1 rfl
theorem a_St_isHolder_5 : dk_at b_St_isHolder 5 t_St_isHolder_5 := dk_go 3 a_St_isHolder_2 rfl
theorem a_St_isHolder_8 : dk_at b_St_isHolder 8 t_St_isHolder_8 := dk_go 3 a_St_isHolder_5 rfl
theorem a_St_isHolder_9 : dk_at b_St_isHolder 9 t_St_isHolder_9 := dk_go 1 a_St_isHolder_8 rfl
theorem a_St_isHolder_10 : dk_at b_St_isHolder 10 t_St_isHolder_10 := dk_go 1 a_St_isHolder_9 rfl
theorem a_St_isHolder_13 : dk_at b_St_isHolder 13 t_St_isHolder_13 := dk_go 3 a_St_isHolder_10 rfl
theorem a_St_isHolder_16 : dk_at b_St_isHolder 16 t_St_isHolder_16 := dk_go 3 a_St_isHolder_13 rfl
theorem a_St_isHolder_17 : dk_at b_St_isHolder 17 t_St_isHolder_17 := dk_go 1 a_St_isHolder_16 rfl
theorem a_St_isHolder_20 : dk_at b_St_isHolder 20 t_St_isHolder_20 := dk_go 3 a_St_isHolder_17 rfl
theorem a_St_isHolder_21 : dk_at b_St_isHolder 21 t_St_isHolder_21 := dk_go 1 a_St_isHolder_20 rfl
theorem d_St_isHolder_0 : decode b_St_isHolder 0 = .ok (.aload_n 0, 1) := dk_0 a_St_isHolder_0 (dko_42 _)
theorem d_St_isHolder_1 : decode b_St_isHolder 1 = .ok (.iload_n 1, 1) := dk_0 a_St_isHolder_1 (dko_27 _)
theorem d_St_isHolder_2 : decode b_St_isHolder 2 = .ok (.invokevirtual 70, 3) := dk_U2 a_St_isHolder_2 (dko_182 _) rfl
theorem d_St_isHolder_5 : decode b_St_isHolder 5 = .ok (.ifCond .ne 11, 3) := dk_S2 a_St_isHolder_5 (dko_154 _) (by decide +kernel)
theorem d_St_isHolder_8 : decode b_St_isHolder 8 = .ok (.aload_n 0, 1) := dk_0 a_St_isHolder_8 (dko_42 _)
theorem d_St_isHolder_9 : decode b_St_isHolder 9 = .ok (.iload_n 1, 1) := dk_0 a_St_isHolder_9 (dko_27 _)
theorem d_St_isHolder_10 : decode b_St_isHolder 10 = .ok (.invokevirtual 74, 3) := dk_U2 a_St_isHolder_10 (dko_182 _) rfl
theorem d_St_isHolder_13 : decode b_St_isHolder 13 = .ok (.ifCond .eq 7, 3) := dk_S2 a_St_isHolder_13 (dko_153 _) (by decide +kernel)
theorem d_St_isHolder_16 : decode b_St_isHolder 16 = .ok (.iconst 1, 1) := dk_0 a_St_isHolder_16 (dko_4 _)
theorem d_St_isHolder_17 : decode b_St_isHolder 17 = .ok (.goto 4, 3) := dk_S2 a_St_isHolder_17 (dko_167 _) (by decide +kernel)
theorem d_St_isHolder_20 : decode b_St_isHolder 20 = .ok (.iconst 0, 1) := dk_0 a_St_isHolder_20 (dko_3 _)
theorem d_St_isHolder_21 : decode b_St_isHolder 21 = .ok (.ireturn, 1) := dk_0 a_St_isHolder_21 (dko_172 _)
set_option maxHeartbeats 4000000 in
set_option maxRecDepth 100000 in
theorem ok_St_isHolder (pc : Nat) : OpS mt mi_St_isHolder pc (cs_St_isHolder pc) := (os_n (os_n (os_n (os_l (so_aload_n d_St_isHolder_0 rfl)) (os_n (os_l (so_iload_n d_St_isHolder_1 rfl)) (os_l (so_callV (iv := mi_St_isTank) rfl rfl rfl mw_1203 mw_1076 mw_1077 mw_4 mw_1078 ⟨by decide +kernel, by decide +kernel, by decide +kernel⟩ (by decide) d_St_isHolder_2)))) (os_n (os_l (so_ifne d_St_isHolder_5 (by decide))) (os_n (os_l (so_aload_n d_St_isHolder_8 rfl)) (os_l (so_iload_n d_St_isHolder_9 rfl))))) (os_n (os_n (os_l (so_callV (iv := mi_St_isPipe) rfl rfl rfl mw_1204 mw_1205 mw_1206 mw_4 mw_1207 ⟨by decide +kernel, by decide +kernel, by decide +kernel⟩ (by decide) d_St_isHolder_10)) (os_n (os_l (so_ifeq d_St_isHolder_13 (by decide))) (os_l (so_iconst d_St_isHolder_16 (by decide))))) (os_n (os_l (so_goto d_St_isHolder_17 (by decide))) (os_n (os_l (so_iconst d_St_isHolder_20 (by decide))) (os_l (so_zreturn rfl d_St_isHolder_21))))))
abbrev t_St_mayMeet_18 : List UInt8 := 172 :: []
abbrev t_St_mayMeet_17 : List UInt8 := 3 :: t_St_mayMeet_18
abbrev t_St_mayMeet_14 : List UInt8 := 167 :: 0 :: 4 :: t_St_mayMeet_17
abbrev t_St_mayMeet_13 : List UInt8 := 4 :: t_St_mayMeet_14
abbrev t_St_mayMeet_10 : List UInt8 := 153 :: 0 :: 7 :: t_St_mayMeet_13
abbrev t_St_mayMeet_9 : List UInt8 := 126 :: t_St_mayMeet_10
abbrev t_St_mayMeet_8 : List UInt8 := 4 :: t_St_mayMeet_9
abbrev t_St_mayMeet_7 : List UInt8 := 122 :: t_St_mayMeet_8
abbrev t_St_mayMeet_6 : List UInt8 := 28 :: t_St_mayMeet_7
abbrev t_St_mayMeet_5 : List UInt8 := 46 :: t_St_mayMeet_6
abbrev t_St_mayMeet_4 : List UInt8 := 27 :: t_St_mayMeet_5
abbrev t_St_mayMeet_1 : List UInt8 := 180 :: 0 :: 41 :: t_St_mayMeet_4
abbrev t_St_mayMeet_0 : List UInt8 := 42 :: t_St_mayMeet_1
theorem a_St_mayMeet_0 : dk_at b_St_mayMeet 0 t_St_mayMeet_0 := dk_start (by decide +kernel)
theorem a_St_mayMeet_1 : dk_at b_St_mayMeet 1 t_St_mayMeet_1 := dk_go 1 a_St_mayMeet_0 rfl
theorem a_St_mayMeet_4 : dk_at b_St_mayMeet 4 t_St_mayMeet_4 := dk_go 3 a_St_mayMeet_1 rfl
theorem a_St_mayMeet_5 : dk_at b_St_mayMeet 5 t_St_mayMeet_5 := dk_go 1 a_St_mayMeet_4 rfl
theorem a_St_mayMeet_6 : dk_at b_St_mayMeet 6 t_St_mayMeet_6 := dk_go 1 a_St_mayMeet_5 rfl
theorem a_St_mayMeet_7 : dk_at b_St_mayMeet 7 t_St_mayMeet_7 := dk_go 1 a_St_mayMeet_6 rfl
theorem a_St_mayMeet_8 : dk_at b_St_mayMeet 8 t_St_mayMeet_8 := dk_go 1 a_St_mayMeet_7 rfl
theorem a_St_mayMeet_9 : dk_at b_St_mayMeet 9 t_St_mayMeet_9 := dk_go 1 a_St_mayMeet_8 rfl
theorem a_St_mayMeet_10 : dk_at b_St_mayMeet 10 t_St_mayMeet_10 := dk_go 1 a_St_mayMeet_9 rfl
theorem a_St_mayMeet_13 : dk_at b_St_mayMeet 13 t_St_mayMeet_13 := dk_go 3 a_St_mayMeet_10 rfl
theorem a_St_mayMeet_14 : dk_at b_St_mayMeet 14 t_St_mayMeet_14 := dk_go 1 a_St_mayMeet_13 rfl
theorem a_St_mayMeet_17 : dk_at b_St_mayMeet 17 t_St_mayMeet_17 := dk_go 3 a_St_mayMeet_14 rfl
theorem a_St_mayMeet_18 : dk_at b_St_mayMeet 18 t_St_mayMeet_18 := dk_go 1 a_St_mayMeet_17 rfl
theorem d_St_mayMeet_0 : decode b_St_mayMeet 0 = .ok (.aload_n 0, 1) := dk_0 a_St_mayMeet_0 (dko_42 _)
theorem d_St_mayMeet_1 : decode b_St_mayMeet 1 = .ok (.getfield 41, 3) := dk_U2 a_St_mayMeet_1 (dko_180 _) rfl
theorem d_St_mayMeet_4 : decode b_St_mayMeet 4 = .ok (.iload_n 1, 1) := dk_0 a_St_mayMeet_4 (dko_27 _)
theorem d_St_mayMeet_5 : decode b_St_mayMeet 5 = .ok (.iaload, 1) := dk_0 a_St_mayMeet_5 (dko_46 _)
theorem d_St_mayMeet_6 : decode b_St_mayMeet 6 = .ok (.iload_n 2, 1) := dk_0 a_St_mayMeet_6 (dko_28 _)
theorem d_St_mayMeet_7 : decode b_St_mayMeet 7 = .ok (.ishr, 1) := dk_0 a_St_mayMeet_7 (dko_122 _)
theorem d_St_mayMeet_8 : decode b_St_mayMeet 8 = .ok (.iconst 1, 1) := dk_0 a_St_mayMeet_8 (dko_4 _)
theorem d_St_mayMeet_9 : decode b_St_mayMeet 9 = .ok (.iand, 1) := dk_0 a_St_mayMeet_9 (dko_126 _)
theorem d_St_mayMeet_10 : decode b_St_mayMeet 10 = .ok (.ifCond .eq 7, 3) := dk_S2 a_St_mayMeet_10 (dko_153 _) (by decide +kernel)
theorem d_St_mayMeet_13 : decode b_St_mayMeet 13 = .ok (.iconst 1, 1) := dk_0 a_St_mayMeet_13 (dko_4 _)
theorem d_St_mayMeet_14 : decode b_St_mayMeet 14 = .ok (.goto 4, 3) := dk_S2 a_St_mayMeet_14 (dko_167 _) (by decide +kernel)
theorem d_St_mayMeet_17 : decode b_St_mayMeet 17 = .ok (.iconst 0, 1) := dk_0 a_St_mayMeet_17 (dko_3 _)
theorem d_St_mayMeet_18 : decode b_St_mayMeet 18 = .ok (.ireturn, 1) := dk_0 a_St_mayMeet_18 (dko_172 _)
set_option maxHeartbeats 4000000 in
set_option maxRecDepth 100000 in
theorem ok_St_mayMeet (pc : Nat) : OpS mt mi_St_mayMeet pc (cs_St_mayMeet pc) := (os_n (os_n (os_n (os_l (so_aload_n d_St_mayMeet_0 rfl)) (os_n (os_l (so_get (C := R_St) (T := F_St) (N := 12) (j := 9) in_St rfl (by decide) mw_176 d_St_mayMeet_1)) (os_l (so_iload_n d_St_mayMeet_4 rfl)))) (os_n (os_l (so_iaload d_St_mayMeet_5)) (os_n (os_l (so_iload_n d_St_mayMeet_6 rfl)) (os_l (so_ishr d_St_mayMeet_7))))) (os_n (os_n (os_l (so_iconst d_St_mayMeet_8 (by decide))) (os_n (os_l (so_iand d_St_mayMeet_9)) (os_l (so_ifeq d_St_mayMeet_10 (by decide))))) (os_n (os_n (os_l (so_iconst d_St_mayMeet_13 (by decide))) (os_l (so_goto d_St_mayMeet_14 (by decide)))) (os_n (os_l (so_iconst d_St_mayMeet_17 (by decide))) (os_l (so_zreturn rfl d_St_mayMeet_18))))))
abbrev t_St_mayCome_71 : List UInt8 := 172 :: []
abbrev t_St_mayCome_70 : List UInt8 := 3 :: t_St_mayCome_71
abbrev t_St_mayCome_67 : List UInt8 := 167 :: 0 :: 4 :: t_St_mayCome_70
abbrev t_St_mayCome_66 : List UInt8 := 4 :: t_St_mayCome_67
abbrev t_St_mayCome_63 : List UInt8 := 161 :: 0 :: 7 :: t_St_mayCome_66
abbrev t_St_mayCome_62 : List UInt8 := 29 :: t_St_mayCome_63
abbrev t_St_mayCome_59 : List UInt8 := 182 :: 0 :: 77 :: t_St_mayCome_62
abbrev t_St_mayCome_58 : List UInt8 := 27 :: t_St_mayCome_59
abbrev t_St_mayCome_57 : List UInt8 := 42 :: t_St_mayCome_58
abbrev t_St_mayCome_54 : List UInt8 := 153 :: 0 :: 12 :: t_St_mayCome_57
abbrev t_St_mayCome_53 : List UInt8 := 29 :: t_St_mayCome_54
abbrev t_St_mayCome_52 : List UInt8 := 62 :: t_St_mayCome_53
abbrev t_St_mayCome_51 : List UInt8 := 46 :: t_St_mayCome_52
abbrev t_St_mayCome_50 : List UInt8 := 96 :: t_St_mayCome_51
abbrev t_St_mayCome_49 : List UInt8 := 28 :: t_St_mayCome_50
abbrev t_St_mayCome_48 : List UInt8 := 104 :: t_St_mayCome_49
abbrev t_St_mayCome_46 : List UInt8 := 16 :: 15 :: t_St_mayCome_48
abbrev t_St_mayCome_45 : List UInt8 := 46 :: t_St_mayCome_46
abbrev t_St_mayCome_44 : List UInt8 := 27 :: t_St_mayCome_45
abbrev t_St_mayCome_41 : List UInt8 := 180 :: 0 :: 28 :: t_St_mayCome_44
abbrev t_St_mayCome_40 : List UInt8 := 42 :: t_St_mayCome_41
abbrev t_St_mayCome_37 : List UInt8 := 180 :: 0 :: 44 :: t_St_mayCome_40
abbrev t_St_mayCome_36 : List UInt8 := 42 :: t_St_mayCome_37
abbrev t_St_mayCome_35 : List UInt8 := 172 :: t_St_mayCome_36
abbrev t_St_mayCome_34 : List UInt8 := 4 :: t_St_mayCome_35
abbrev t_St_mayCome_31 : List UInt8 := 154 :: 0 :: 5 :: t_St_mayCome_34
abbrev t_St_mayCome_30 : List UInt8 := 46 :: t_St_mayCome_31
abbrev t_St_mayCome_29 : List UInt8 := 27 :: t_St_mayCome_30
abbrev t_St_mayCome_26 : List UInt8 := 180 :: 0 :: 28 :: t_St_mayCome_29
abbrev t_St_mayCome_25 : List UInt8 := 42 :: t_St_mayCome_26
abbrev t_St_mayCome_24 : List UInt8 := 172 :: t_St_mayCome_25
abbrev t_St_mayCome_23 : List UInt8 := 3 :: t_St_mayCome_24
abbrev t_St_mayCome_20 : List UInt8 := 167 :: 0 :: 4 :: t_St_mayCome_23
abbrev t_St_mayCome_19 : List UInt8 := 4 :: t_St_mayCome_20
abbrev t_St_mayCome_16 : List UInt8 := 160 :: 0 :: 7 :: t_St_mayCome_19
abbrev t_St_mayCome_15 : List UInt8 := 28 :: t_St_mayCome_16
abbrev t_St_mayCome_14 : List UInt8 := 46 :: t_St_mayCome_15
abbrev t_St_mayCome_13 : List UInt8 := 27 :: t_St_mayCome_14
abbrev t_St_mayCome_10 : List UInt8 := 180 :: 0 :: 22 :: t_St_mayCome_13
abbrev t_St_mayCome_9 : List UInt8 := 42 :: t_St_mayCome_10
abbrev t_St_mayCome_6 : List UInt8 := 153 :: 0 :: 19 :: t_St_mayCome_9
abbrev t_St_mayCome_5 : List UInt8 := 46 :: t_St_mayCome_6
abbrev t_St_mayCome_4 : List UInt8 := 27 :: t_St_mayCome_5
abbrev t_St_mayCome_1 : List UInt8 := 180 :: 0 :: 22 :: t_St_mayCome_4
abbrev t_St_mayCome_0 : List UInt8 := 42 :: t_St_mayCome_1
theorem a_St_mayCome_0 : dk_at b_St_mayCome 0 t_St_mayCome_0 := dk_start (by decide +kernel)
theorem a_St_mayCome_1 : dk_at b_St_mayCome 1 t_St_mayCome_1 := dk_go 1 a_St_mayCome_0 rfl
theorem a_St_mayCome_4 : dk_at b_St_mayCome 4 t_St_mayCome_4 := dk_go 3 a_St_mayCome_1 rfl
theorem a_St_mayCome_5 : dk_at b_St_mayCome 5 t_St_mayCome_5 := dk_go 1 a_St_mayCome_4 rfl
theorem a_St_mayCome_6 : dk_at b_St_mayCome 6 t_St_mayCome_6 := dk_go 1 a_St_mayCome_5 rfl
theorem a_St_mayCome_9 : dk_at b_St_mayCome 9 t_St_mayCome_9 := dk_go 3 a_St_mayCome_6 rfl
theorem a_St_mayCome_10 : dk_at b_St_mayCome 10 t_St_mayCome_10 := dk_go 1 a_St_mayCome_9 rfl
theorem a_St_mayCome_13 : dk_at b_St_mayCome 13 t_St_mayCome_13 := dk_go 3 a_St_mayCome_10 rfl
theorem a_St_mayCome_14 : dk_at b_St_mayCome 14 t_St_mayCome_14 := dk_go 1 a_St_mayCome_13 rfl
theorem a_St_mayCome_15 : dk_at b_St_mayCome 15 t_St_mayCome_15 := dk_go 1 a_St_mayCome_14 rfl
theorem a_St_mayCome_16 : dk_at b_St_mayCome 16 t_St_mayCome_16 := dk_go 1 a_St_mayCome_15 rfl
theorem a_St_mayCome_19 : dk_at b_St_mayCome 19 t_St_mayCome_19 := dk_go 3 a_St_mayCome_16 rfl
theorem a_St_mayCome_20 : dk_at b_St_mayCome 20 t_St_mayCome_20 := dk_go 1 a_St_mayCome_19 rfl
theorem a_St_mayCome_23 : dk_at b_St_mayCome 23 t_St_mayCome_23 := dk_go 3 a_St_mayCome_20 rfl
theorem a_St_mayCome_24 : dk_at b_St_mayCome 24 t_St_mayCome_24 := dk_go 1 a_St_mayCome_23 rfl
theorem a_St_mayCome_25 : dk_at b_St_mayCome 25 t_St_mayCome_25 := dk_go 1 a_St_mayCome_24 rfl
theorem a_St_mayCome_26 : dk_at b_St_mayCome 26 t_St_mayCome_26 := dk_go 1 a_St_mayCome_25 rfl
theorem a_St_mayCome_29 : dk_at b_St_mayCome 29 t_St_mayCome_29 := dk_go 3 a_St_mayCome_26 rfl
theorem a_St_mayCome_30 : dk_at b_St_mayCome 30 t_St_mayCome_30 := dk_go 1 a_St_mayCome_29 rfl
theorem a_St_mayCome_31 : dk_at b_St_mayCome 31 t_St_mayCome_31 := dk_go 1 a_St_mayCome_30 rfl
theorem a_St_mayCome_34 : dk_at b_St_mayCome 34 t_St_mayCome_34 := dk_go 3 a_St_mayCome_31 rfl
theorem a_St_mayCome_35 : dk_at b_St_mayCome 35 t_St_mayCome_35 := dk_go 1 a_St_mayCome_34 rfl
theorem a_St_mayCome_36 : dk_at b_St_mayCome 36 t_St_mayCome_36 := dk_go 1 a_St_mayCome_35 rfl
theorem a_St_mayCome_37 : dk_at b_St_mayCome 37 t_St_mayCome_37 := dk_go 1 a_St_mayCome_36 rfl
theorem a_St_mayCome_40 : dk_at b_St_mayCome 40 t_St_mayCome_40 := dk_go 3 a_St_mayCome_37 rfl
theorem a_St_mayCome_41 : dk_at b_St_mayCome 41 t_St_mayCome_41 := dk_go 1 a_St_mayCome_40 rfl
theorem a_St_mayCome_44 : dk_at b_St_mayCome 44 t_St_mayCome_44 := dk_go 3 a_St_mayCome_41 rfl
theorem a_St_mayCome_45 : dk_at b_St_mayCome 45 t_St_mayCome_45 := dk_go 1 a_St_mayCome_44 rfl
theorem a_St_mayCome_46 : dk_at b_St_mayCome 46 t_St_mayCome_46 := dk_go 1 a_St_mayCome_45 rfl
theorem a_St_mayCome_48 : dk_at b_St_mayCome 48 t_St_mayCome_48 := dk_go 2 a_St_mayCome_46 rfl
theorem a_St_mayCome_49 : dk_at b_St_mayCome 49 t_St_mayCome_49 := dk_go 1 a_St_mayCome_48 rfl
theorem a_St_mayCome_50 : dk_at b_St_mayCome 50 t_St_mayCome_50 := dk_go 1 a_St_mayCome_49 rfl
theorem a_St_mayCome_51 : dk_at b_St_mayCome 51 t_St_mayCome_51 := dk_go 1 a_St_mayCome_50 rfl
theorem a_St_mayCome_52 : dk_at b_St_mayCome 52 t_St_mayCome_52 := dk_go 1 a_St_mayCome_51 rfl
theorem a_St_mayCome_53 : dk_at b_St_mayCome 53 t_St_mayCome_53 := dk_go 1 a_St_mayCome_52 rfl
theorem a_St_mayCome_54 : dk_at b_St_mayCome 54 t_St_mayCome_54 := dk_go 1 a_St_mayCome_53 rfl
theorem a_St_mayCome_57 : dk_at b_St_mayCome 57 t_St_mayCome_57 := dk_go 3 a_St_mayCome_54 rfl
theorem a_St_mayCome_58 : dk_at b_St_mayCome 58 t_St_mayCome_58 := dk_go 1 a_St_mayCome_57 rfl
theorem a_St_mayCome_59 : dk_at b_St_mayCome 59 t_St_mayCome_59 := dk_go 1 a_St_mayCome_58 rfl
theorem a_St_mayCome_62 : dk_at b_St_mayCome 62 t_St_mayCome_62 := dk_go 3 a_St_mayCome_59 rfl
theorem a_St_mayCome_63 : dk_at b_St_mayCome 63 t_St_mayCome_63 := dk_go 1 a_St_mayCome_62 rfl
theorem a_St_mayCome_66 : dk_at b_St_mayCome 66 t_St_mayCome_66 := dk_go 3 a_St_mayCome_63 rfl
theorem a_St_mayCome_67 : dk_at b_St_mayCome 67 t_St_mayCome_67 := dk_go 1 a_St_mayCome_66 rfl
theorem a_St_mayCome_70 : dk_at b_St_mayCome 70 t_St_mayCome_70 := dk_go 3 a_St_mayCome_67 rfl
theorem a_St_mayCome_71 : dk_at b_St_mayCome 71 t_St_mayCome_71 := dk_go 1 a_St_mayCome_70 rfl
theorem d_St_mayCome_0 : decode b_St_mayCome 0 = .ok (.aload_n 0, 1) := dk_0 a_St_mayCome_0 (dko_42 _)
theorem d_St_mayCome_1 : decode b_St_mayCome 1 = .ok (.getfield 22, 3) := dk_U2 a_St_mayCome_1 (dko_180 _) rfl
theorem d_St_mayCome_4 : decode b_St_mayCome 4 = .ok (.iload_n 1, 1) := dk_0 a_St_mayCome_4 (dko_27 _)
theorem d_St_mayCome_5 : decode b_St_mayCome 5 = .ok (.iaload, 1) := dk_0 a_St_mayCome_5 (dko_46 _)
theorem d_St_mayCome_6 : decode b_St_mayCome 6 = .ok (.ifCond .eq 19, 3) := dk_S2 a_St_mayCome_6 (dko_153 _) (by decide +kernel)
theorem d_St_mayCome_9 : decode b_St_mayCome 9 = .ok (.aload_n 0, 1) := dk_0 a_St_mayCome_9 (dko_42 _)
theorem d_St_mayCome_10 : decode b_St_mayCome 10 = .ok (.getfield 22, 3) := dk_U2 a_St_mayCome_10 (dko_180 _) rfl
theorem d_St_mayCome_13 : decode b_St_mayCome 13 = .ok (.iload_n 1, 1) := dk_0 a_St_mayCome_13 (dko_27 _)
theorem d_St_mayCome_14 : decode b_St_mayCome 14 = .ok (.iaload, 1) := dk_0 a_St_mayCome_14 (dko_46 _)
theorem d_St_mayCome_15 : decode b_St_mayCome 15 = .ok (.iload_n 2, 1) := dk_0 a_St_mayCome_15 (dko_28 _)
theorem d_St_mayCome_16 : decode b_St_mayCome 16 = .ok (.if_icmp .ne 7, 3) := dk_S2 a_St_mayCome_16 (dko_160 _) (by decide +kernel)
theorem d_St_mayCome_19 : decode b_St_mayCome 19 = .ok (.iconst 1, 1) := dk_0 a_St_mayCome_19 (dko_4 _)
theorem d_St_mayCome_20 : decode b_St_mayCome 20 = .ok (.goto 4, 3) := dk_S2 a_St_mayCome_20 (dko_167 _) (by decide +kernel)
theorem d_St_mayCome_23 : decode b_St_mayCome 23 = .ok (.iconst 0, 1) := dk_0 a_St_mayCome_23 (dko_3 _)
theorem d_St_mayCome_24 : decode b_St_mayCome 24 = .ok (.ireturn, 1) := dk_0 a_St_mayCome_24 (dko_172 _)
theorem d_St_mayCome_25 : decode b_St_mayCome 25 = .ok (.aload_n 0, 1) := dk_0 a_St_mayCome_25 (dko_42 _)
theorem d_St_mayCome_26 : decode b_St_mayCome 26 = .ok (.getfield 28, 3) := dk_U2 a_St_mayCome_26 (dko_180 _) rfl
theorem d_St_mayCome_29 : decode b_St_mayCome 29 = .ok (.iload_n 1, 1) := dk_0 a_St_mayCome_29 (dko_27 _)
theorem d_St_mayCome_30 : decode b_St_mayCome 30 = .ok (.iaload, 1) := dk_0 a_St_mayCome_30 (dko_46 _)
theorem d_St_mayCome_31 : decode b_St_mayCome 31 = .ok (.ifCond .ne 5, 3) := dk_S2 a_St_mayCome_31 (dko_154 _) (by decide +kernel)
theorem d_St_mayCome_34 : decode b_St_mayCome 34 = .ok (.iconst 1, 1) := dk_0 a_St_mayCome_34 (dko_4 _)
theorem d_St_mayCome_35 : decode b_St_mayCome 35 = .ok (.ireturn, 1) := dk_0 a_St_mayCome_35 (dko_172 _)
theorem d_St_mayCome_36 : decode b_St_mayCome 36 = .ok (.aload_n 0, 1) := dk_0 a_St_mayCome_36 (dko_42 _)
theorem d_St_mayCome_37 : decode b_St_mayCome 37 = .ok (.getfield 44, 3) := dk_U2 a_St_mayCome_37 (dko_180 _) rfl
theorem d_St_mayCome_40 : decode b_St_mayCome 40 = .ok (.aload_n 0, 1) := dk_0 a_St_mayCome_40 (dko_42 _)
theorem d_St_mayCome_41 : decode b_St_mayCome 41 = .ok (.getfield 28, 3) := dk_U2 a_St_mayCome_41 (dko_180 _) rfl
theorem d_St_mayCome_44 : decode b_St_mayCome 44 = .ok (.iload_n 1, 1) := dk_0 a_St_mayCome_44 (dko_27 _)
theorem d_St_mayCome_45 : decode b_St_mayCome 45 = .ok (.iaload, 1) := dk_0 a_St_mayCome_45 (dko_46 _)
theorem d_St_mayCome_46 : decode b_St_mayCome 46 = .ok (.bipush 15, 2) := dk_S1 a_St_mayCome_46 (dko_16 _) (by decide +kernel)
theorem d_St_mayCome_48 : decode b_St_mayCome 48 = .ok (.imul, 1) := dk_0 a_St_mayCome_48 (dko_104 _)
theorem d_St_mayCome_49 : decode b_St_mayCome 49 = .ok (.iload_n 2, 1) := dk_0 a_St_mayCome_49 (dko_28 _)
theorem d_St_mayCome_50 : decode b_St_mayCome 50 = .ok (.iadd, 1) := dk_0 a_St_mayCome_50 (dko_96 _)
theorem d_St_mayCome_51 : decode b_St_mayCome 51 = .ok (.iaload, 1) := dk_0 a_St_mayCome_51 (dko_46 _)
theorem d_St_mayCome_52 : decode b_St_mayCome 52 = .ok (.istore_n 3, 1) := dk_0 a_St_mayCome_52 (dko_62 _)
theorem d_St_mayCome_53 : decode b_St_mayCome 53 = .ok (.iload_n 3, 1) := dk_0 a_St_mayCome_53 (dko_29 _)
theorem d_St_mayCome_54 : decode b_St_mayCome 54 = .ok (.ifCond .eq 12, 3) := dk_S2 a_St_mayCome_54 (dko_153 _) (by decide +kernel)
theorem d_St_mayCome_57 : decode b_St_mayCome 57 = .ok (.aload_n 0, 1) := dk_0 a_St_mayCome_57 (dko_42 _)
theorem d_St_mayCome_58 : decode b_St_mayCome 58 = .ok (.iload_n 1, 1) := dk_0 a_St_mayCome_58 (dko_27 _)
theorem d_St_mayCome_59 : decode b_St_mayCome 59 = .ok (.invokevirtual 77, 3) := dk_U2 a_St_mayCome_59 (dko_182 _) rfl
theorem d_St_mayCome_62 : decode b_St_mayCome 62 = .ok (.iload_n 3, 1) := dk_0 a_St_mayCome_62 (dko_29 _)
theorem d_St_mayCome_63 : decode b_St_mayCome 63 = .ok (.if_icmp .lt 7, 3) := dk_S2 a_St_mayCome_63 (dko_161 _) (by decide +kernel)
theorem d_St_mayCome_66 : decode b_St_mayCome 66 = .ok (.iconst 1, 1) := dk_0 a_St_mayCome_66 (dko_4 _)
theorem d_St_mayCome_67 : decode b_St_mayCome 67 = .ok (.goto 4, 3) := dk_S2 a_St_mayCome_67 (dko_167 _) (by decide +kernel)
theorem d_St_mayCome_70 : decode b_St_mayCome 70 = .ok (.iconst 0, 1) := dk_0 a_St_mayCome_70 (dko_3 _)
theorem d_St_mayCome_71 : decode b_St_mayCome 71 = .ok (.ireturn, 1) := dk_0 a_St_mayCome_71 (dko_172 _)
set_option maxHeartbeats 4000000 in
set_option maxRecDepth 100000 in
theorem ok_St_mayCome (pc : Nat) : OpS mt mi_St_mayCome pc (cs_St_mayCome pc) := (os_n (os_n (os_n (os_n (os_n (os_l (so_aload_n d_St_mayCome_0 rfl)) (os_l (so_get (C := R_St) (T := F_St) (N := 12) (j := 3) in_St rfl (by decide) mw_162 d_St_mayCome_1))) (os_n (os_l (so_iload_n d_St_mayCome_4 rfl)) (os_n (os_l (so_iaload d_St_mayCome_5)) (os_l (so_ifeq d_St_mayCome_6 (by decide)))))) (os_n (os_n (os_l (so_aload_n d_St_mayCome_9 rfl)) (os_n (os_l (so_get (C := R_St) (T := F_St) (N := 12) (j := 3) in_St rfl (by decide) mw_162 d_St_mayCome_10)) (os_l (so_iload_n d_St_mayCome_13 rfl)))) (os_n (os_l (so_iaload d_St_mayCome_14)) (os_n (os_l (so_iload_n d_St_mayCome_15 rfl)) (os_l (so_icne d_St_mayCome_16 (by decide))))))) (os_n (os_n (os_n (os_l (so_iconst d_St_mayCome_19 (by decide))) (os_l (so_goto d_St_mayCome_20 (by decide)))) (os_n (os_l (so_iconst d_St_mayCome_23 (by decide))) (os_n (os_l (so_zreturn rfl d_St_mayCome_24)) (os_l (so_aload_n d_St_mayCome_25 rfl))))) (os_n (os_n (os_l (so_get (C := R_St) (T := F_St) (N := 12) (j := 5) in_St rfl (by decide) mw_171 d_St_mayCome_26)) (os_n (os_l (so_iload_n d_St_mayCome_29 rfl)) (os_l (so_iaload d_St_mayCome_30)))) (os_n (os_l (so_ifne d_St_mayCome_31 (by decide))) (os_n (os_l (so_iconst d_St_mayCome_34 (by decide))) (os_l (so_zreturn rfl d_St_mayCome_35))))))) (os_n (os_n (os_n (os_n (os_l (so_aload_n d_St_mayCome_36 rfl)) (os_l (so_get (C := R_St) (T := F_St) (N := 12) (j := 10) in_St rfl (by decide) mw_179 d_St_mayCome_37))) (os_n (os_l (so_aload_n d_St_mayCome_40 rfl)) (os_n (os_l (so_get (C := R_St) (T := F_St) (N := 12) (j := 5) in_St rfl (by decide) mw_171 d_St_mayCome_41)) (os_l (so_iload_n d_St_mayCome_44 rfl))))) (os_n (os_n (os_l (so_iaload d_St_mayCome_45)) (os_n (os_l (so_bipush d_St_mayCome_46 (by decide))) (os_l (so_imul d_St_mayCome_48)))) (os_n (os_l (so_iload_n d_St_mayCome_49 rfl)) (os_n (os_l (so_iadd d_St_mayCome_50)) (os_l (so_iaload d_St_mayCome_51)))))) (os_n (os_n (os_n (os_l (so_istore_n d_St_mayCome_52 rfl (by decide))) (os_n (os_l (so_iload_n d_St_mayCome_53 rfl)) (os_l (so_ifeq d_St_mayCome_54 (by decide))))) (os_n (os_l (so_aload_n d_St_mayCome_57 rfl)) (os_n (os_l (so_iload_n d_St_mayCome_58 rfl)) (os_l (so_callV (iv := mi_St_heldLevel) rfl rfl rfl mw_1087 mw_1089 sl_47 mw_4 mw_1090 ⟨by decide +kernel, by decide +kernel, by decide +kernel⟩ (by decide) d_St_mayCome_59))))) (os_n (os_n (os_l (so_iload_n d_St_mayCome_62 rfl)) (os_n (os_l (so_iclt d_St_mayCome_63 (by decide))) (os_l (so_iconst d_St_mayCome_66 (by decide))))) (os_n (os_l (so_goto d_St_mayCome_67 (by decide))) (os_n (os_l (so_iconst d_St_mayCome_70 (by decide))) (os_l (so_zreturn rfl d_St_mayCome_71))))))))
abbrev t_St_levelOf_27 : List UInt8 := 172 :: []
abbrev t_St_levelOf_24 : List UInt8 := 182 :: 0 :: 77 :: t_St_levelOf_27
abbrev t_St_levelOf_23 : List UInt8 := 27 :: t_St_levelOf_24
abbrev t_St_levelOf_22 : List UInt8 := 42 :: t_St_levelOf_23
abbrev t_St_levelOf_19 : List UInt8 := 167 :: 0 :: 8 :: t_St_levelOf_22
abbrev t_St_levelOf_18 : List UInt8 := 3 :: t_St_levelOf_19
abbrev t_St_levelOf_15 : List UInt8 := 154 :: 0 :: 7 :: t_St_levelOf_18
abbrev t_St_levelOf_14 : List UInt8 := 46 :: t_St_levelOf_15
abbrev t_St_levelOf_13 : List UInt8 := 27 :: t_St_levelOf_14
abbrev t_St_levelOf_10 : List UInt8 := 180 :: 0 :: 28 :: t_St_levelOf_13
abbrev t_St_levelOf_9 : List UInt8 := 42 :: t_St_levelOf_10
abbrev t_St_levelOf_6 : List UInt8 := 154 :: 0 :: 12 :: t_St_levelOf_9
abbrev t_St_levelOf_5 : List UInt8 := 46 :: t_St_levelOf_6
abbrev t_St_levelOf_4 : List UInt8 := 27 :: t_St_levelOf_5
abbrev t_St_levelOf_1 : List UInt8 := 180 :: 0 :: 22 :: t_St_levelOf_4
abbrev t_St_levelOf_0 : List UInt8 := 42 :: t_St_levelOf_1
theorem a_St_levelOf_0 : dk_at b_St_levelOf 0 t_St_levelOf_0 := dk_start (by decide +kernel)
theorem a_St_levelOf_1 : dk_at b_St_levelOf 1 t_St_levelOf_1 := dk_go 1 a_St_levelOf_0 rfl
theorem a_St_levelOf_4 : dk_at b_St_levelOf 4 t_St_levelOf_4 := dk_go 3 a_St_levelOf_1 rfl
theorem a_St_levelOf_5 : dk_at b_St_levelOf 5 t_St_levelOf_5 := dk_go 1 a_St_levelOf_4 rfl
theorem a_St_levelOf_6 : dk_at b_St_levelOf 6 t_St_levelOf_6 := dk_go 1 a_St_levelOf_5 rfl
theorem a_St_levelOf_9 : dk_at b_St_levelOf 9 t_St_levelOf_9 := dk_go 3 a_St_levelOf_6 rfl
theorem a_St_levelOf_10 : dk_at b_St_levelOf 10 t_St_levelOf_10 := dk_go 1 a_St_levelOf_9 rfl
theorem a_St_levelOf_13 : dk_at b_St_levelOf 13 t_St_levelOf_13 := dk_go 3 a_St_levelOf_10 rfl
theorem a_St_levelOf_14 : dk_at b_St_levelOf 14 t_St_levelOf_14 := dk_go 1 a_St_levelOf_13 rfl
theorem a_St_levelOf_15 : dk_at b_St_levelOf 15 t_St_levelOf_15 := dk_go 1 a_St_levelOf_14 rfl
theorem a_St_levelOf_18 : dk_at b_St_levelOf 18 t_St_levelOf_18 := dk_go 3 a_St_levelOf_15 rfl
theorem a_St_levelOf_19 : dk_at b_St_levelOf 19 t_St_levelOf_19 := dk_go 1 a_St_levelOf_18 rfl
theorem a_St_levelOf_22 : dk_at b_St_levelOf 22 t_St_levelOf_22 := dk_go 3 a_St_levelOf_19 rfl
theorem a_St_levelOf_23 : dk_at b_St_levelOf 23 t_St_levelOf_23 := dk_go 1 a_St_levelOf_22 rfl
theorem a_St_levelOf_24 : dk_at b_St_levelOf 24 t_St_levelOf_24 := dk_go 1 a_St_levelOf_23 rfl
theorem a_St_levelOf_27 : dk_at b_St_levelOf 27 t_St_levelOf_27 := dk_go 3 a_St_levelOf_24 rfl
theorem d_St_levelOf_0 : decode b_St_levelOf 0 = .ok (.aload_n 0, 1) := dk_0 a_St_levelOf_0 (dko_42 _)
theorem d_St_levelOf_1 : decode b_St_levelOf 1 = .ok (.getfield 22, 3) := dk_U2 a_St_levelOf_1 (dko_180 _) rfl
theorem d_St_levelOf_4 : decode b_St_levelOf 4 = .ok (.iload_n 1, 1) := dk_0 a_St_levelOf_4 (dko_27 _)
theorem d_St_levelOf_5 : decode b_St_levelOf 5 = .ok (.iaload, 1) := dk_0 a_St_levelOf_5 (dko_46 _)
theorem d_St_levelOf_6 : decode b_St_levelOf 6 = .ok (.ifCond .ne 12, 3) := dk_S2 a_St_levelOf_6 (dko_154 _) (by decide +kernel)
theorem d_St_levelOf_9 : decode b_St_levelOf 9 = .ok (.aload_n 0, 1) := dk_0 a_St_levelOf_9 (dko_42 _)
theorem d_St_levelOf_10 : decode b_St_levelOf 10 = .ok (.getfield 28, 3) := dk_U2 a_St_levelOf_10 (dko_180 _) rfl
theorem d_St_levelOf_13 : decode b_St_levelOf 13 = .ok (.iload_n 1, 1) := dk_0 a_St_levelOf_13 (dko_27 _)
theorem d_St_levelOf_14 : decode b_St_levelOf 14 = .ok (.iaload, 1) := dk_0 a_St_levelOf_14 (dko_46 _)
theorem d_St_levelOf_15 : decode b_St_levelOf 15 = .ok (.ifCond .ne 7, 3) := dk_S2 a_St_levelOf_15 (dko_154 _) (by decide +kernel)
theorem d_St_levelOf_18 : decode b_St_levelOf 18 = .ok (.iconst 0, 1) := dk_0 a_St_levelOf_18 (dko_3 _)
theorem d_St_levelOf_19 : decode b_St_levelOf 19 = .ok (.goto 8, 3) := dk_S2 a_St_levelOf_19 (dko_167 _) (by decide +kernel)
theorem d_St_levelOf_22 : decode b_St_levelOf 22 = .ok (.aload_n 0, 1) := dk_0 a_St_levelOf_22 (dko_42 _)
theorem d_St_levelOf_23 : decode b_St_levelOf 23 = .ok (.iload_n 1, 1) := dk_0 a_St_levelOf_23 (dko_27 _)
theorem d_St_levelOf_24 : decode b_St_levelOf 24 = .ok (.invokevirtual 77, 3) := dk_U2 a_St_levelOf_24 (dko_182 _) rfl
theorem d_St_levelOf_27 : decode b_St_levelOf 27 = .ok (.ireturn, 1) := dk_0 a_St_levelOf_27 (dko_172 _)
set_option maxHeartbeats 4000000 in
set_option maxRecDepth 100000 in
theorem ok_St_levelOf (pc : Nat) : OpS mt mi_St_levelOf pc (cs_St_levelOf pc) := (os_n (os_n (os_n (os_n (os_l (so_aload_n d_St_levelOf_0 rfl)) (os_l (so_get (C := R_St) (T := F_St) (N := 12) (j := 3) in_St rfl (by decide) mw_162 d_St_levelOf_1))) (os_n (os_l (so_iload_n d_St_levelOf_4 rfl)) (os_l (so_iaload d_St_levelOf_5)))) (os_n (os_n (os_l (so_ifne d_St_levelOf_6 (by decide))) (os_l (so_aload_n d_St_levelOf_9 rfl))) (os_n (os_l (so_get (C := R_St) (T := F_St) (N := 12) (j := 5) in_St rfl (by decide) mw_171 d_St_levelOf_10)) (os_l (so_iload_n d_St_levelOf_13 rfl))))) (os_n (os_n (os_n (os_l (so_iaload d_St_levelOf_14)) (os_l (so_ifne d_St_levelOf_15 (by decide)))) (os_n (os_l (so_iconst d_St_levelOf_18 (by decide))) (os_l (so_goto d_St_levelOf_19 (by decide))))) (os_n (os_n (os_l (so_aload_n d_St_levelOf_22 rfl)) (os_l (so_iload_n d_St_levelOf_23 rfl))) (os_n (os_l (so_callV (iv := mi_St_heldLevel) rfl rfl rfl mw_1087 mw_1089 sl_47 mw_4 mw_1090 ⟨by decide +kernel, by decide +kernel, by decide +kernel⟩ (by decide) d_St_levelOf_24)) (os_l (so_ireturn rfl d_St_levelOf_27))))))
abbrev t_St_heldLevel_53 : List UInt8 := 172 :: []
abbrev t_St_heldLevel_52 : List UInt8 := 3 :: t_St_heldLevel_53
abbrev t_St_heldLevel_49 : List UInt8 := 167 :: 255 :: 211 :: t_St_heldLevel_52
abbrev t_St_heldLevel_46 : List UInt8 := 132 :: 3 :: 255 :: t_St_heldLevel_49
abbrev t_St_heldLevel_45 : List UInt8 := 172 :: t_St_heldLevel_46
abbrev t_St_heldLevel_44 : List UInt8 := 29 :: t_St_heldLevel_45
abbrev t_St_heldLevel_41 : List UInt8 := 162 :: 0 :: 5 :: t_St_heldLevel_44
abbrev t_St_heldLevel_40 : List UInt8 := 46 :: t_St_heldLevel_41
abbrev t_St_heldLevel_39 : List UInt8 := 29 :: t_St_heldLevel_40
abbrev t_St_heldLevel_36 : List UInt8 := 180 :: 0 :: 47 :: t_St_heldLevel_39
abbrev t_St_heldLevel_35 : List UInt8 := 42 :: t_St_heldLevel_36
abbrev t_St_heldLevel_34 : List UInt8 := 100 :: t_St_heldLevel_35
abbrev t_St_heldLevel_33 : List UInt8 := 28 :: t_St_heldLevel_34
abbrev t_St_heldLevel_30 : List UInt8 := 180 :: 0 :: 87 :: t_St_heldLevel_33
abbrev t_St_heldLevel_29 : List UInt8 := 42 :: t_St_heldLevel_30
abbrev t_St_heldLevel_26 : List UInt8 := 155 :: 0 :: 20 :: t_St_heldLevel_29
abbrev t_St_heldLevel_25 : List UInt8 := 28 :: t_St_heldLevel_26
abbrev t_St_heldLevel_24 : List UInt8 := 61 :: t_St_heldLevel_25
abbrev t_St_heldLevel_21 : List UInt8 := 184 :: 0 :: 81 :: t_St_heldLevel_24
abbrev t_St_heldLevel_20 : List UInt8 := 46 :: t_St_heldLevel_21
abbrev t_St_heldLevel_19 : List UInt8 := 96 :: t_St_heldLevel_20
abbrev t_St_heldLevel_18 : List UInt8 := 29 :: t_St_heldLevel_19
abbrev t_St_heldLevel_17 : List UInt8 := 104 :: t_St_heldLevel_18
abbrev t_St_heldLevel_15 : List UInt8 := 16 :: 6 :: t_St_heldLevel_17
abbrev t_St_heldLevel_14 : List UInt8 := 27 :: t_St_heldLevel_15
abbrev t_St_heldLevel_11 : List UInt8 := 180 :: 0 :: 31 :: t_St_heldLevel_14
abbrev t_St_heldLevel_10 : List UInt8 := 42 :: t_St_heldLevel_11
abbrev t_St_heldLevel_9 : List UInt8 := 28 :: t_St_heldLevel_10
abbrev t_St_heldLevel_6 : List UInt8 := 161 :: 0 :: 46 :: t_St_heldLevel_9
abbrev t_St_heldLevel_5 : List UInt8 := 4 :: t_St_heldLevel_6
abbrev t_St_heldLevel_4 : List UInt8 := 29 :: t_St_heldLevel_5
abbrev t_St_heldLevel_3 : List UInt8 := 62 :: t_St_heldLevel_4
abbrev t_St_heldLevel_2 : List UInt8 := 8 :: t_St_heldLevel_3
abbrev t_St_heldLevel_1 : List UInt8 := 61 :: t_St_heldLevel_2
abbrev t_St_heldLevel_0 : List UInt8 := 2 :: t_St_heldLevel_1
theorem a_St_heldLevel_0 : dk_at b_St_heldLevel 0 t_St_heldLevel_0 := dk_start (by decide +kernel)
theorem a_St_heldLevel_1 : dk_at b_St_heldLevel 1 t_St_heldLevel_1 := dk_go 1 a_St_heldLevel_0 rfl
theorem a_St_heldLevel_2 : dk_at b_St_heldLevel 2 t_St_heldLevel_2 := dk_go 1 a_St_heldLevel_1 rfl
theorem a_St_heldLevel_3 : dk_at b_St_heldLevel 3 t_St_heldLevel_3 := dk_go 1 a_St_heldLevel_2 rfl
theorem a_St_heldLevel_4 : dk_at b_St_heldLevel 4 t_St_heldLevel_4 := dk_go 1 a_St_heldLevel_3 rfl
theorem a_St_heldLevel_5 : dk_at b_St_heldLevel 5 t_St_heldLevel_5 := dk_go 1 a_St_heldLevel_4 rfl
theorem a_St_heldLevel_6 : dk_at b_St_heldLevel 6 t_St_heldLevel_6 := dk_go 1 a_St_heldLevel_5 rfl
theorem a_St_heldLevel_9 : dk_at b_St_heldLevel 9 t_St_heldLevel_9 := dk_go 3 a_St_heldLevel_6 rfl
theorem a_St_heldLevel_10 : dk_at b_St_heldLevel 10 t_St_heldLevel_10 := dk_go 1 a_St_heldLevel_9 rfl
theorem a_St_heldLevel_11 : dk_at b_St_heldLevel 11 t_St_heldLevel_11 := dk_go 1 a_St_heldLevel_10 rfl
theorem a_St_heldLevel_14 : dk_at b_St_heldLevel 14 t_St_heldLevel_14 := dk_go 3 a_St_heldLevel_11 rfl
theorem a_St_heldLevel_15 : dk_at b_St_heldLevel 15 t_St_heldLevel_15 := dk_go 1 a_St_heldLevel_14 rfl
theorem a_St_heldLevel_17 : dk_at b_St_heldLevel 17 t_St_heldLevel_17 := dk_go 2 a_St_heldLevel_15 rfl
theorem a_St_heldLevel_18 : dk_at b_St_heldLevel 18 t_St_heldLevel_18 := dk_go 1 a_St_heldLevel_17 rfl
theorem a_St_heldLevel_19 : dk_at b_St_heldLevel 19 t_St_heldLevel_19 := dk_go 1 a_St_heldLevel_18 rfl
theorem a_St_heldLevel_20 : dk_at b_St_heldLevel 20 t_St_heldLevel_20 := dk_go 1 a_St_heldLevel_19 rfl
theorem a_St_heldLevel_21 : dk_at b_St_heldLevel 21 t_St_heldLevel_21 := dk_go 1 a_St_heldLevel_20 rfl
theorem a_St_heldLevel_24 : dk_at b_St_heldLevel 24 t_St_heldLevel_24 := dk_go 3 a_St_heldLevel_21 rfl
theorem a_St_heldLevel_25 : dk_at b_St_heldLevel 25 t_St_heldLevel_25 := dk_go 1 a_St_heldLevel_24 rfl
theorem a_St_heldLevel_26 : dk_at b_St_heldLevel 26 t_St_heldLevel_26 := dk_go 1 a_St_heldLevel_25 rfl
theorem a_St_heldLevel_29 : dk_at b_St_heldLevel 29 t_St_heldLevel_29 := dk_go 3 a_St_heldLevel_26 rfl
theorem a_St_heldLevel_30 : dk_at b_St_heldLevel 30 t_St_heldLevel_30 := dk_go 1 a_St_heldLevel_29 rfl
theorem a_St_heldLevel_33 : dk_at b_St_heldLevel 33 t_St_heldLevel_33 := dk_go 3 a_St_heldLevel_30 rfl
theorem a_St_heldLevel_34 : dk_at b_St_heldLevel 34 t_St_heldLevel_34 := dk_go 1 a_St_heldLevel_33 rfl
theorem a_St_heldLevel_35 : dk_at b_St_heldLevel 35 t_St_heldLevel_35 := dk_go 1 a_St_heldLevel_34 rfl
theorem a_St_heldLevel_36 : dk_at b_St_heldLevel 36 t_St_heldLevel_36 := dk_go 1 a_St_heldLevel_35 rfl
theorem a_St_heldLevel_39 : dk_at b_St_heldLevel 39 t_St_heldLevel_39 := dk_go 3 a_St_heldLevel_36 rfl
theorem a_St_heldLevel_40 : dk_at b_St_heldLevel 40 t_St_heldLevel_40 := dk_go 1 a_St_heldLevel_39 rfl
theorem a_St_heldLevel_41 : dk_at b_St_heldLevel 41 t_St_heldLevel_41 := dk_go 1 a_St_heldLevel_40 rfl
theorem a_St_heldLevel_44 : dk_at b_St_heldLevel 44 t_St_heldLevel_44 := dk_go 3 a_St_heldLevel_41 rfl
theorem a_St_heldLevel_45 : dk_at b_St_heldLevel 45 t_St_heldLevel_45 := dk_go 1 a_St_heldLevel_44 rfl
theorem a_St_heldLevel_46 : dk_at b_St_heldLevel 46 t_St_heldLevel_46 := dk_go 1 a_St_heldLevel_45 rfl
theorem a_St_heldLevel_49 : dk_at b_St_heldLevel 49 t_St_heldLevel_49 := dk_go 3 a_St_heldLevel_46 rfl
theorem a_St_heldLevel_52 : dk_at b_St_heldLevel 52 t_St_heldLevel_52 := dk_go 3 a_St_heldLevel_49 rfl
theorem a_St_heldLevel_53 : dk_at b_St_heldLevel 53 t_St_heldLevel_53 := dk_go 1 a_St_heldLevel_52 rfl
theorem d_St_heldLevel_0 : decode b_St_heldLevel 0 = .ok (.iconst (-1), 1) := dk_0 a_St_heldLevel_0 (dko_2 _)
theorem d_St_heldLevel_1 : decode b_St_heldLevel 1 = .ok (.istore_n 2, 1) := dk_0 a_St_heldLevel_1 (dko_61 _)
theorem d_St_heldLevel_2 : decode b_St_heldLevel 2 = .ok (.iconst 5, 1) := dk_0 a_St_heldLevel_2 (dko_8 _)
theorem d_St_heldLevel_3 : decode b_St_heldLevel 3 = .ok (.istore_n 3, 1) := dk_0 a_St_heldLevel_3 (dko_62 _)
theorem d_St_heldLevel_4 : decode b_St_heldLevel 4 = .ok (.iload_n 3, 1) := dk_0 a_St_heldLevel_4 (dko_29 _)
theorem d_St_heldLevel_5 : decode b_St_heldLevel 5 = .ok (.iconst 1, 1) := dk_0 a_St_heldLevel_5 (dko_4 _)
theorem d_St_heldLevel_6 : decode b_St_heldLevel 6 = .ok (.if_icmp .lt 46, 3) := dk_S2 a_St_heldLevel_6 (dko_161 _) (by decide +kernel)
theorem d_St_heldLevel_9 : decode b_St_heldLevel 9 = .ok (.iload_n 2, 1) := dk_0 a_St_heldLevel_9 (dko_28 _)
theorem d_St_heldLevel_10 : decode b_St_heldLevel 10 = .ok (.aload_n 0, 1) := dk_0 a_St_heldLevel_10 (dko_42 _)
theorem d_St_heldLevel_11 : decode b_St_heldLevel 11 = .ok (.getfield 31, 3) := dk_U2 a_St_heldLevel_11 (dko_180 _) rfl
theorem d_St_heldLevel_14 : decode b_St_heldLevel 14 = .ok (.iload_n 1, 1) := dk_0 a_St_heldLevel_14 (dko_27 _)
theorem d_St_heldLevel_15 : decode b_St_heldLevel 15 = .ok (.bipush 6, 2) := dk_S1 a_St_heldLevel_15 (dko_16 _) (by decide +kernel)
theorem d_St_heldLevel_17 : decode b_St_heldLevel 17 = .ok (.imul, 1) := dk_0 a_St_heldLevel_17 (dko_104 _)
theorem d_St_heldLevel_18 : decode b_St_heldLevel 18 = .ok (.iload_n 3, 1) := dk_0 a_St_heldLevel_18 (dko_29 _)
theorem d_St_heldLevel_19 : decode b_St_heldLevel 19 = .ok (.iadd, 1) := dk_0 a_St_heldLevel_19 (dko_96 _)
theorem d_St_heldLevel_20 : decode b_St_heldLevel 20 = .ok (.iaload, 1) := dk_0 a_St_heldLevel_20 (dko_46 _)
theorem d_St_heldLevel_21 : decode b_St_heldLevel 21 = .ok (.invokestatic 81, 3) := dk_U2 a_St_heldLevel_21 (dko_184 _) rfl
theorem d_St_heldLevel_24 : decode b_St_heldLevel 24 = .ok (.istore_n 2, 1) := dk_0 a_St_heldLevel_24 (dko_61 _)
theorem d_St_heldLevel_25 : decode b_St_heldLevel 25 = .ok (.iload_n 2, 1) := dk_0 a_St_heldLevel_25 (dko_28 _)
theorem d_St_heldLevel_26 : decode b_St_heldLevel 26 = .ok (.ifCond .lt 20, 3) := dk_S2 a_St_heldLevel_26 (dko_155 _) (by decide +kernel)
theorem d_St_heldLevel_29 : decode b_St_heldLevel 29 = .ok (.aload_n 0, 1) := dk_0 a_St_heldLevel_29 (dko_42 _)
theorem d_St_heldLevel_30 : decode b_St_heldLevel 30 = .ok (.getfield 87, 3) := dk_U2 a_St_heldLevel_30 (dko_180 _) rfl
theorem d_St_heldLevel_33 : decode b_St_heldLevel 33 = .ok (.iload_n 2, 1) := dk_0 a_St_heldLevel_33 (dko_28 _)
theorem d_St_heldLevel_34 : decode b_St_heldLevel 34 = .ok (.isub, 1) := dk_0 a_St_heldLevel_34 (dko_100 _)
theorem d_St_heldLevel_35 : decode b_St_heldLevel 35 = .ok (.aload_n 0, 1) := dk_0 a_St_heldLevel_35 (dko_42 _)
theorem d_St_heldLevel_36 : decode b_St_heldLevel 36 = .ok (.getfield 47, 3) := dk_U2 a_St_heldLevel_36 (dko_180 _) rfl
theorem d_St_heldLevel_39 : decode b_St_heldLevel 39 = .ok (.iload_n 3, 1) := dk_0 a_St_heldLevel_39 (dko_29 _)
theorem d_St_heldLevel_40 : decode b_St_heldLevel 40 = .ok (.iaload, 1) := dk_0 a_St_heldLevel_40 (dko_46 _)
theorem d_St_heldLevel_41 : decode b_St_heldLevel 41 = .ok (.if_icmp .ge 5, 3) := dk_S2 a_St_heldLevel_41 (dko_162 _) (by decide +kernel)
theorem d_St_heldLevel_44 : decode b_St_heldLevel 44 = .ok (.iload_n 3, 1) := dk_0 a_St_heldLevel_44 (dko_29 _)
theorem d_St_heldLevel_45 : decode b_St_heldLevel 45 = .ok (.ireturn, 1) := dk_0 a_St_heldLevel_45 (dko_172 _)
theorem d_St_heldLevel_46 : decode b_St_heldLevel 46 = .ok (.iinc 3 (-1), 3) := dk_US a_St_heldLevel_46 (dko_132 _) (by decide +kernel)
theorem d_St_heldLevel_49 : decode b_St_heldLevel 49 = .ok (.goto (-45), 3) := dk_S2 a_St_heldLevel_49 (dko_167 _) (by decide +kernel)
theorem d_St_heldLevel_52 : decode b_St_heldLevel 52 = .ok (.iconst 0, 1) := dk_0 a_St_heldLevel_52 (dko_3 _)
theorem d_St_heldLevel_53 : decode b_St_heldLevel 53 = .ok (.ireturn, 1) := dk_0 a_St_heldLevel_53 (dko_172 _)
set_option maxHeartbeats 4000000 in
set_option maxRecDepth 100000 in
theorem ok_St_heldLevel (pc : Nat) : OpS mt mi_St_heldLevel pc (cs_St_heldLevel pc) := (os_n (os_n (os_n (os_n (os_n (os_l (so_iconst d_St_heldLevel_0 (by decide))) (os_l (so_istore_n d_St_heldLevel_1 rfl (by decide)))) (os_n (os_l (so_iconst d_St_heldLevel_2 (by decide))) (os_l (so_istore_n d_St_heldLevel_3 rfl (by decide))))) (os_n (os_n (os_l (so_iload_n d_St_heldLevel_4 rfl)) (os_l (so_iconst d_St_heldLevel_5 (by decide)))) (os_n (os_l (so_iclt d_St_heldLevel_6 (by decide))) (os_l (so_iload_n d_St_heldLevel_9 rfl))))) (os_n (os_n (os_n (os_l (so_aload_n d_St_heldLevel_10 rfl)) (os_l (so_get (C := R_St) (T := F_St) (N := 12) (j := 6) in_St rfl (by decide) mw_173 d_St_heldLevel_11))) (os_n (os_l (so_iload_n d_St_heldLevel_14 rfl)) (os_l (so_bipush d_St_heldLevel_15 (by decide))))) (os_n (os_n (os_l (so_imul d_St_heldLevel_17)) (os_l (so_iload_n d_St_heldLevel_18 rfl))) (os_n (os_l (so_iadd d_St_heldLevel_19)) (os_n (os_l (so_iaload d_St_heldLevel_20)) (os_l (so_callS (iv := mi_Ma_max) rfl mw_1091 mw_973 mw_21 mw_974 ⟨by decide +kernel, by decide +kernel, by decide +kernel⟩ (by decide) d_St_heldLevel_21))))))) (os_n (os_n (os_n (os_n (os_l (so_istore_n d_St_heldLevel_24 rfl (by decide))) (os_l (so_iload_n d_St_heldLevel_25 rfl))) (os_n (os_l (so_iflt d_St_heldLevel_26 (by decide))) (os_l (so_aload_n d_St_heldLevel_29 rfl)))) (os_n (os_n (os_l (so_get (C := R_St) (T := F_St) (N := 12) (j := 1) in_St rfl (by decide) mw_155 d_St_heldLevel_30)) (os_l (so_iload_n d_St_heldLevel_33 rfl))) (os_n (os_l (so_isub d_St_heldLevel_34)) (os_n (os_l (so_aload_n d_St_heldLevel_35 rfl)) (os_l (so_get (C := R_St) (T := F_St) (N := 12) (j := 11) in_St rfl (by decide) mw_181 d_St_heldLevel_36)))))) (os_n (os_n (os_n (os_l (so_iload_n d_St_heldLevel_39 rfl)) (os_l (so_iaload d_St_heldLevel_40))) (os_n (os_l (so_icge d_St_heldLevel_41 (by decide))) (os_l (so_iload_n d_St_heldLevel_44 rfl)))) (os_n (os_n (os_l (so_ireturn rfl d_St_heldLevel_45)) (os_l (so_iinc d_St_heldLevel_46 (by decide) (by decide)))) (os_n (os_l (so_goto d_St_heldLevel_49 (by decide))) (os_n (os_l (so_iconst d_St_heldLevel_52 (by decide))) (os_l (so_ireturn rfl d_St_heldLevel_53))))))))
abbrev t_St_cleanSpace_15 : List UInt8 := 177 :: []
abbrev t_St_cleanSpace_14 : List UInt8 := 79 :: t_St_cleanSpace_15
abbrev t_St_cleanSpace_11 : List UInt8 := 180 :: 0 :: 87 :: t_St_cleanSpace_14
abbrev t_St_cleanSpace_10 : List UInt8 := 42 :: t_St_cleanSpace_11
abbrev t_St_cleanSpace_9 : List UInt8 := 96 :: t_St_cleanSpace_10
abbrev t_St_cleanSpace_8 : List UInt8 := 28 :: t_St_cleanSpace_9
abbrev t_St_cleanSpace_7 : List UInt8 := 104 :: t_St_cleanSpace_8
abbrev t_St_cleanSpace_5 : List UInt8 := 16 :: 6 :: t_St_cleanSpace_7
abbrev t_St_cleanSpace_4 : List UInt8 := 27 :: t_St_cleanSpace_5
abbrev t_St_cleanSpace_1 : List UInt8 := 180 :: 0 :: 31 :: t_St_cleanSpace_4
abbrev t_St_cleanSpace_0 : List UInt8 := 42 :: t_St_cleanSpace_1
theorem a_St_cleanSpace_0 : dk_at b_St_cleanSpace 0 t_St_cleanSpace_0 := dk_start (by decide +kernel)
theorem a_St_cleanSpace_1 : dk_at b_St_cleanSpace 1 t_St_cleanSpace_1 := dk_go 1 a_St_cleanSpace_0 rfl
theorem a_St_cleanSpace_4 : dk_at b_St_cleanSpace 4 t_St_cleanSpace_4 := dk_go 3 a_St_cleanSpace_1 rfl
theorem a_St_cleanSpace_5 : dk_at b_St_cleanSpace 5 t_St_cleanSpace_5 := dk_go 1 a_St_cleanSpace_4 rfl
theorem a_St_cleanSpace_7 : dk_at b_St_cleanSpace 7 t_St_cleanSpace_7 := dk_go 2 a_St_cleanSpace_5 rfl
theorem a_St_cleanSpace_8 : dk_at b_St_cleanSpace 8 t_St_cleanSpace_8 := dk_go 1 a_St_cleanSpace_7 rfl
theorem a_St_cleanSpace_9 : dk_at b_St_cleanSpace 9 t_St_cleanSpace_9 := dk_go 1 a_St_cleanSpace_8 rfl
theorem a_St_cleanSpace_10 : dk_at b_St_cleanSpace 10 t_St_cleanSpace_10 := dk_go 1 a_St_cleanSpace_9 rfl
theorem a_St_cleanSpace_11 : dk_at b_St_cleanSpace 11 t_St_cleanSpace_11 := dk_go 1 a_St_cleanSpace_10 rfl
theorem a_St_cleanSpace_14 : dk_at b_St_cleanSpace 14 t_St_cleanSpace_14 := dk_go 3 a_St_cleanSpace_11 rfl
theorem a_St_cleanSpace_15 : dk_at b_St_cleanSpace 15 t_St_cleanSpace_15 := dk_go 1 a_St_cleanSpace_14 rfl
theorem d_St_cleanSpace_0 : decode b_St_cleanSpace 0 = .ok (.aload_n 0, 1) := dk_0 a_St_cleanSpace_0 (dko_42 _)
theorem d_St_cleanSpace_1 : decode b_St_cleanSpace 1 = .ok (.getfield 31, 3) := dk_U2 a_St_cleanSpace_1 (dko_180 _) rfl
theorem d_St_cleanSpace_4 : decode b_St_cleanSpace 4 = .ok (.iload_n 1, 1) := dk_0 a_St_cleanSpace_4 (dko_27 _)
theorem d_St_cleanSpace_5 : decode b_St_cleanSpace 5 = .ok (.bipush 6, 2) := dk_S1 a_St_cleanSpace_5 (dko_16 _) (by decide +kernel)
theorem d_St_cleanSpace_7 : decode b_St_cleanSpace 7 = .ok (.imul, 1) := dk_0 a_St_cleanSpace_7 (dko_104 _)
theorem d_St_cleanSpace_8 : decode b_St_cleanSpace 8 = .ok (.iload_n 2, 1) := dk_0 a_St_cleanSpace_8 (dko_28 _)
theorem d_St_cleanSpace_9 : decode b_St_cleanSpace 9 = .ok (.iadd, 1) := dk_0 a_St_cleanSpace_9 (dko_96 _)
theorem d_St_cleanSpace_10 : decode b_St_cleanSpace 10 = .ok (.aload_n 0, 1) := dk_0 a_St_cleanSpace_10 (dko_42 _)
theorem d_St_cleanSpace_11 : decode b_St_cleanSpace 11 = .ok (.getfield 87, 3) := dk_U2 a_St_cleanSpace_11 (dko_180 _) rfl
theorem d_St_cleanSpace_14 : decode b_St_cleanSpace 14 = .ok (.iastore, 1) := dk_0 a_St_cleanSpace_14 (dko_79 _)
theorem d_St_cleanSpace_15 : decode b_St_cleanSpace 15 = .ok (.return_, 1) := dk_0 a_St_cleanSpace_15 (dko_177 _)
set_option maxHeartbeats 4000000 in
set_option maxRecDepth 100000 in
theorem ok_St_cleanSpace (pc : Nat) : OpS mt mi_St_cleanSpace pc (cs_St_cleanSpace pc) := (os_n (os_n (os_n (os_l (so_aload_n d_St_cleanSpace_0 rfl)) (os_l (so_get (C := R_St) (T := F_St) (N := 12) (j := 6) in_St rfl (by decide) mw_173 d_St_cleanSpace_1))) (os_n (os_l (so_iload_n d_St_cleanSpace_4 rfl)) (os_n (os_l (so_bipush d_St_cleanSpace_5 (by decide))) (os_l (so_imul d_St_cleanSpace_7))))) (os_n (os_n (os_l (so_iload_n d_St_cleanSpace_8 rfl)) (os_n (os_l (so_iadd d_St_cleanSpace_9)) (os_l (so_aload_n d_St_cleanSpace_10 rfl)))) (os_n (os_l (so_get (C := R_St) (T := F_St) (N := 12) (j := 1) in_St rfl (by decide) mw_155 d_St_cleanSpace_11)) (os_n (os_l (so_iastore d_St_cleanSpace_14)) (os_l (so_return rfl d_St_cleanSpace_15))))))
abbrev t_St_forgetCleanings_25 : List UInt8 := 177 :: []
abbrev t_St_forgetCleanings_22 : List UInt8 := 167 :: 255 :: 236 :: t_St_forgetCleanings_25
abbrev t_St_forgetCleanings_19 : List UInt8 := 132 :: 2 :: 1 :: t_St_forgetCleanings_22
abbrev t_St_forgetCleanings_18 : List UInt8 := 79 :: t_St_forgetCleanings_19
abbrev t_St_forgetCleanings_17 : List UInt8 := 2 :: t_St_forgetCleanings_18
abbrev t_St_forgetCleanings_16 : List UInt8 := 96 :: t_St_forgetCleanings_17
abbrev t_St_forgetCleanings_15 : List UInt8 := 28 :: t_St_forgetCleanings_16
abbrev t_St_forgetCleanings_14 : List UInt8 := 104 :: t_St_forgetCleanings_15
abbrev t_St_forgetCleanings_12 : List UInt8 := 16 :: 6 :: t_St_forgetCleanings_14
abbrev t_St_forgetCleanings_11 : List UInt8 := 27 :: t_St_forgetCleanings_12
abbrev t_St_forgetCleanings_8 : List UInt8 := 180 :: 0 :: 31 :: t_St_forgetCleanings_11
abbrev t_St_forgetCleanings_7 : List UInt8 := 42 :: t_St_forgetCleanings_8
abbrev t_St_forgetCleanings_4 : List UInt8 := 163 :: 0 :: 21 :: t_St_forgetCleanings_7
abbrev t_St_forgetCleanings_3 : List UInt8 := 8 :: t_St_forgetCleanings_4
abbrev t_St_forgetCleanings_2 : List UInt8 := 28 :: t_St_forgetCleanings_3
abbrev t_St_forgetCleanings_1 : List UInt8 := 61 :: t_St_forgetCleanings_2
abbrev t_St_forgetCleanings_0 : List UInt8 := 4 :: t_St_forgetCleanings_1
theorem a_St_forgetCleanings_0 : dk_at b_St_forgetCleanings 0 t_St_forgetCleanings_0 := dk_start (by decide +kernel)
theorem a_St_forgetCleanings_1 : dk_at b_St_forgetCleanings 1 t_St_forgetCleanings_1 := dk_go 1 a_St_forgetCleanings_0 rfl
theorem a_St_forgetCleanings_2 : dk_at b_St_forgetCleanings 2 t_St_forgetCleanings_2 := dk_go 1 a_St_forgetCleanings_1 rfl
theorem a_St_forgetCleanings_3 : dk_at b_St_forgetCleanings 3 t_St_forgetCleanings_3 := dk_go 1 a_St_forgetCleanings_2 rfl
theorem a_St_forgetCleanings_4 : dk_at b_St_forgetCleanings 4 t_St_forgetCleanings_4 := dk_go 1 a_St_forgetCleanings_3 rfl
theorem a_St_forgetCleanings_7 : dk_at b_St_forgetCleanings 7 t_St_forgetCleanings_7 := dk_go 3 a_St_forgetCleanings_4 rfl
theorem a_St_forgetCleanings_8 : dk_at b_St_forgetCleanings 8 t_St_forgetCleanings_8 := dk_go 1 a_St_forgetCleanings_7 rfl
theorem a_St_forgetCleanings_11 : dk_at b_St_forgetCleanings 11 t_St_forgetCleanings_11 := dk_go 3 a_St_forgetCleanings_8 rfl
theorem a_St_forgetCleanings_12 : dk_at b_St_forgetCleanings 12 t_St_forgetCleanings_12 := dk_go 1 a_St_forgetCleanings_11 rfl
theorem a_St_forgetCleanings_14 : dk_at b_St_forgetCleanings 14 t_St_forgetCleanings_14 := dk_go 2 a_St_forgetCleanings_12 rfl
theorem a_St_forgetCleanings_15 : dk_at b_St_forgetCleanings 15 t_St_forgetCleanings_15 := dk_go 1 a_St_forgetCleanings_14 rfl
theorem a_St_forgetCleanings_16 : dk_at b_St_forgetCleanings 16 t_St_forgetCleanings_16 := dk_go 1 a_St_forgetCleanings_15 rfl
theorem a_St_forgetCleanings_17 : dk_at b_St_forgetCleanings 17 t_St_forgetCleanings_17 := dk_go 1 a_St_forgetCleanings_16 rfl
theorem a_St_forgetCleanings_18 : dk_at b_St_forgetCleanings 18 t_St_forgetCleanings_18 := dk_go 1 a_St_forgetCleanings_17 rfl
theorem a_St_forgetCleanings_19 : dk_at b_St_forgetCleanings 19 t_St_forgetCleanings_19 := dk_go 1 a_St_forgetCleanings_18 rfl
theorem a_St_forgetCleanings_22 : dk_at b_St_forgetCleanings 22 t_St_forgetCleanings_22 := dk_go 3 a_St_forgetCleanings_19 rfl
theorem a_St_forgetCleanings_25 : dk_at b_St_forgetCleanings 25 t_St_forgetCleanings_25 := dk_go 3 a_St_forgetCleanings_22 rfl
theorem d_St_forgetCleanings_0 : decode b_St_forgetCleanings 0 = .ok (.iconst 1, 1) := dk_0 a_St_forgetCleanings_0 (dko_4 _)
theorem d_St_forgetCleanings_1 : decode b_St_forgetCleanings 1 = .ok (.istore_n 2, 1) := dk_0 a_St_forgetCleanings_1 (dko_61 _)
theorem d_St_forgetCleanings_2 : decode b_St_forgetCleanings 2 = .ok (.iload_n 2, 1) := dk_0 a_St_forgetCleanings_2 (dko_28 _)
theorem d_St_forgetCleanings_3 : decode b_St_forgetCleanings 3 = .ok (.iconst 5, 1) := dk_0 a_St_forgetCleanings_3 (dko_8 _)
theorem d_St_forgetCleanings_4 : decode b_St_forgetCleanings 4 = .ok (.if_icmp .gt 21, 3) := dk_S2 a_St_forgetCleanings_4 (dko_163 _) (by decide +kernel)
theorem d_St_forgetCleanings_7 : decode b_St_forgetCleanings 7 = .ok (.aload_n 0, 1) := dk_0 a_St_forgetCleanings_7 (dko_42 _)
theorem d_St_forgetCleanings_8 : decode b_St_forgetCleanings 8 = .ok (.getfield 31, 3) := dk_U2 a_St_forgetCleanings_8 (dko_180 _) rfl
theorem d_St_forgetCleanings_11 : decode b_St_forgetCleanings 11 = .ok (.iload_n 1, 1) := dk_0 a_St_forgetCleanings_11 (dko_27 _)
theorem d_St_forgetCleanings_12 : decode b_St_forgetCleanings 12 = .ok (.bipush 6, 2) := dk_S1 a_St_forgetCleanings_12 (dko_16 _) (by decide +kernel)
theorem d_St_forgetCleanings_14 : decode b_St_forgetCleanings 14 = .ok (.imul, 1) := dk_0 a_St_forgetCleanings_14 (dko_104 _)
theorem d_St_forgetCleanings_15 : decode b_St_forgetCleanings 15 = .ok (.iload_n 2, 1) := dk_0 a_St_forgetCleanings_15 (dko_28 _)
theorem d_St_forgetCleanings_16 : decode b_St_forgetCleanings 16 = .ok (.iadd, 1) := dk_0 a_St_forgetCleanings_16 (dko_96 _)
theorem d_St_forgetCleanings_17 : decode b_St_forgetCleanings 17 = .ok (.iconst (-1), 1) := dk_0 a_St_forgetCleanings_17 (dko_2 _)
theorem d_St_forgetCleanings_18 : decode b_St_forgetCleanings 18 = .ok (.iastore, 1) := dk_0 a_St_forgetCleanings_18 (dko_79 _)
theorem d_St_forgetCleanings_19 : decode b_St_forgetCleanings 19 = .ok (.iinc 2 1, 3) := dk_US a_St_forgetCleanings_19 (dko_132 _) (by decide +kernel)
theorem d_St_forgetCleanings_22 : decode b_St_forgetCleanings 22 = .ok (.goto (-20), 3) := dk_S2 a_St_forgetCleanings_22 (dko_167 _) (by decide +kernel)
theorem d_St_forgetCleanings_25 : decode b_St_forgetCleanings 25 = .ok (.return_, 1) := dk_0 a_St_forgetCleanings_25 (dko_177 _)
set_option maxHeartbeats 4000000 in
set_option maxRecDepth 100000 in
theorem ok_St_forgetCleanings (pc : Nat) : OpS mt mi_St_forgetCleanings pc (cs_St_forgetCleanings pc) := (os_n (os_n (os_n (os_n (os_l (so_iconst d_St_forgetCleanings_0 (by decide))) (os_l (so_istore_n d_St_forgetCleanings_1 rfl (by decide)))) (os_n (os_l (so_iload_n d_St_forgetCleanings_2 rfl)) (os_l (so_iconst d_St_forgetCleanings_3 (by decide))))) (os_n (os_n (os_l (so_icgt d_St_forgetCleanings_4 (by decide))) (os_l (so_aload_n d_St_forgetCleanings_7 rfl))) (os_n (os_l (so_get (C := R_St) (T := F_St) (N := 12) (j := 6) in_St rfl (by decide) mw_173 d_St_forgetCleanings_8)) (os_l (so_iload_n d_St_forgetCleanings_11 rfl))))) (os_n (os_n (os_n (os_l (so_bipush d_St_forgetCleanings_12 (by decide))) (os_l (so_imul d_St_forgetCleanings_14))) (os_n (os_l (so_iload_n d_St_forgetCleanings_15 rfl)) (os_l (so_iadd d_St_forgetCleanings_16)))) (os_n (os_n (os_l (so_iconst d_St_forgetCleanings_17 (by decide))) (os_l (so_iastore d_St_forgetCleanings_18))) (os_n (os_l (so_iinc d_St_forgetCleanings_19 (by decide) (by decide))) (os_n (os_l (so_goto d_St_forgetCleanings_22 (by decide))) (os_l (so_return rfl d_St_forgetCleanings_25)))))))
abbrev t_St_arrive_31 : List UInt8 := 177 :: []
abbrev t_St_arrive_30 : List UInt8 := 79 :: t_St_arrive_31
abbrev t_St_arrive_29 : List UInt8 := 96 :: t_St_arrive_30
abbrev t_St_arrive_28 : List UInt8 := 29 :: t_St_arrive_29
abbrev t_St_arrive_27 : List UInt8 := 46 :: t_St_arrive_28
abbrev t_St_arrive_26 : List UInt8 := 92 :: t_St_arrive_27
abbrev t_St_arrive_25 : List UInt8 := 27 :: t_St_arrive_26
abbrev t_St_arrive_22 : List UInt8 := 180 :: 0 :: 25 :: t_St_arrive_25
abbrev t_St_arrive_21 : List UInt8 := 42 :: t_St_arrive_22
abbrev t_St_arrive_20 : List UInt8 := 79 :: t_St_arrive_21
abbrev t_St_arrive_19 : List UInt8 := 28 :: t_St_arrive_20
abbrev t_St_arrive_18 : List UInt8 := 27 :: t_St_arrive_19
abbrev t_St_arrive_15 : List UInt8 := 180 :: 0 :: 22 :: t_St_arrive_18
abbrev t_St_arrive_14 : List UInt8 := 42 :: t_St_arrive_15
abbrev t_St_arrive_11 : List UInt8 := 182 :: 0 :: 90 :: t_St_arrive_14
abbrev t_St_arrive_10 : List UInt8 := 27 :: t_St_arrive_11
abbrev t_St_arrive_9 : List UInt8 := 42 :: t_St_arrive_10
abbrev t_St_arrive_6 : List UInt8 := 154 :: 0 :: 8 :: t_St_arrive_9
abbrev t_St_arrive_5 : List UInt8 := 46 :: t_St_arrive_6
abbrev t_St_arrive_4 : List UInt8 := 27 :: t_St_arrive_5
abbrev t_St_arrive_1 : List UInt8 := 180 :: 0 :: 22 :: t_St_arrive_4
abbrev t_St_arrive_0 : List UInt8 := 42 :: t_St_arrive_1
theorem a_St_arrive_0 : dk_at b_St_arrive 0 t_St_arrive_0 := dk_start (by decide +kernel)
theorem a_St_arrive_1 : dk_at b_St_arrive 1 t_St_arrive_1 := dk_go 1 a_St_arrive_0 rfl
theorem a_St_arrive_4 : dk_at b_St_arrive 4 t_St_arrive_4 := dk_go 3 a_St_arrive_1 rfl
theorem a_St_arrive_5 : dk_at b_St_arrive 5 t_St_arrive_5 := dk_go 1 a_St_arrive_4 rfl
theorem a_St_arrive_6 : dk_at b_St_arrive 6 t_St_arrive_6 := dk_go 1 a_St_arrive_5 rfl
theorem a_St_arrive_9 : dk_at b_St_arrive 9 t_St_arrive_9 := dk_go 3 a_St_arrive_6 rfl
theorem a_St_arrive_10 : dk_at b_St_arrive 10 t_St_arrive_10 := dk_go 1 a_St_arrive_9 rfl
theorem a_St_arrive_11 : dk_at b_St_arrive 11 t_St_arrive_11 := dk_go 1 a_St_arrive_10 rfl
theorem a_St_arrive_14 : dk_at b_St_arrive 14 t_St_arrive_14 := dk_go 3 a_St_arrive_11 rfl
theorem a_St_arrive_15 : dk_at b_St_arrive 15 t_St_arrive_15 := dk_go 1 a_St_arrive_14 rfl
theorem a_St_arrive_18 : dk_at b_St_arrive 18 t_St_arrive_18 := dk_go 3 a_St_arrive_15 rfl
theorem a_St_arrive_19 : dk_at b_St_arrive 19 t_St_arrive_19 := dk_go 1 a_St_arrive_18 rfl
theorem a_St_arrive_20 : dk_at b_St_arrive 20 t_St_arrive_20 := dk_go 1 a_St_arrive_19 rfl
theorem a_St_arrive_21 : dk_at b_St_arrive 21 t_St_arrive_21 := dk_go 1 a_St_arrive_20 rfl
theorem a_St_arrive_22 : dk_at b_St_arrive 22 t_St_arrive_22 := dk_go 1 a_St_arrive_21 rfl
theorem a_St_arrive_25 : dk_at b_St_arrive 25 t_St_arrive_25 := dk_go 3 a_St_arrive_22 rfl
theorem a_St_arrive_26 : dk_at b_St_arrive 26 t_St_arrive_26 := dk_go 1 a_St_arrive_25 rfl
theorem a_St_arrive_27 : dk_at b_St_arrive 27 t_St_arrive_27 := dk_go 1 a_St_arrive_26 rfl
theorem a_St_arrive_28 : dk_at b_St_arrive 28 t_St_arrive_28 := dk_go 1 a_St_arrive_27 rfl
theorem a_St_arrive_29 : dk_at b_St_arrive 29 t_St_arrive_29 := dk_go 1 a_St_arrive_28 rfl
theorem a_St_arrive_30 : dk_at b_St_arrive 30 t_St_arrive_30 := dk_go 1 a_St_arrive_29 rfl
theorem a_St_arrive_31 : dk_at b_St_arrive 31 t_St_arrive_31 := dk_go 1 a_St_arrive_30 rfl
theorem d_St_arrive_0 : decode b_St_arrive 0 = .ok (.aload_n 0, 1) := dk_0 a_St_arrive_0 (dko_42 _)
theorem d_St_arrive_1 : decode b_St_arrive 1 = .ok (.getfield 22, 3) := dk_U2 a_St_arrive_1 (dko_180 _) rfl
theorem d_St_arrive_4 : decode b_St_arrive 4 = .ok (.iload_n 1, 1) := dk_0 a_St_arrive_4 (dko_27 _)
theorem d_St_arrive_5 : decode b_St_arrive 5 = .ok (.iaload, 1) := dk_0 a_St_arrive_5 (dko_46 _)
theorem d_St_arrive_6 : decode b_St_arrive 6 = .ok (.ifCond .ne 8, 3) := dk_S2 a_St_arrive_6 (dko_154 _) (by decide +kernel)
theorem d_St_arrive_9 : decode b_St_arrive 9 = .ok (.aload_n 0, 1) := dk_0 a_St_arrive_9 (dko_42 _)
theorem d_St_arrive_10 : decode b_St_arrive 10 = .ok (.iload_n 1, 1) := dk_0 a_St_arrive_10 (dko_27 _)
theorem d_St_arrive_11 : decode b_St_arrive 11 = .ok (.invokevirtual 90, 3) := dk_U2 a_St_arrive_11 (dko_182 _) rfl
theorem d_St_arrive_14 : decode b_St_arrive 14 = .ok (.aload_n 0, 1) := dk_0 a_St_arrive_14 (dko_42 _)
theorem d_St_arrive_15 : decode b_St_arrive 15 = .ok (.getfield 22, 3) := dk_U2 a_St_arrive_15 (dko_180 _) rfl
theorem d_St_arrive_18 : decode b_St_arrive 18 = .ok (.iload_n 1, 1) := dk_0 a_St_arrive_18 (dko_27 _)
theorem d_St_arrive_19 : decode b_St_arrive 19 = .ok (.iload_n 2, 1) := dk_0 a_St_arrive_19 (dko_28 _)
theorem d_St_arrive_20 : decode b_St_arrive 20 = .ok (.iastore, 1) := dk_0 a_St_arrive_20 (dko_79 _)
theorem d_St_arrive_21 : decode b_St_arrive 21 = .ok (.aload_n 0, 1) := dk_0 a_St_arrive_21 (dko_42 _)
theorem d_St_arrive_22 : decode b_St_arrive 22 = .ok (.getfield 25, 3) := dk_U2 a_St_arrive_22 (dko_180 _) rfl
theorem d_St_arrive_25 : decode b_St_arrive 25 = .ok (.iload_n 1, 1) := dk_0 a_St_arrive_25 (dko_27 _)
theorem d_St_arrive_26 : decode b_St_arrive 26 = .ok (.dup2, 1) := dk_0 a_St_arrive_26 (dko_92 _)
theorem d_St_arrive_27 : decode b_St_arrive 27 = .ok (.iaload, 1) := dk_0 a_St_arrive_27 (dko_46 _)
theorem d_St_arrive_28 : decode b_St_arrive 28 = .ok (.iload_n 3, 1) := dk_0 a_St_arrive_28 (dko_29 _)
theorem d_St_arrive_29 : decode b_St_arrive 29 = .ok (.iadd, 1) := dk_0 a_St_arrive_29 (dko_96 _)
theorem d_St_arrive_30 : decode b_St_arrive 30 = .ok (.iastore, 1) := dk_0 a_St_arrive_30 (dko_79 _)
theorem d_St_arrive_31 : decode b_St_arrive 31 = .ok (.return_, 1) := dk_0 a_St_arrive_31 (dko_177 _)
set_option maxHeartbeats 4000000 in
set_option maxRecDepth 100000 in
theorem ok_St_arrive (pc : Nat) : OpS mt mi_St_arrive pc (cs_St_arrive pc) := (os_n (os_n (os_n (os_n (os_l (so_aload_n d_St_arrive_0 rfl)) (os_l (so_get (C := R_St) (T := F_St) (N := 12) (j := 3) in_St rfl (by decide) mw_162 d_St_arrive_1))) (os_n (os_l (so_iload_n d_St_arrive_4 rfl)) (os_n (os_l (so_iaload d_St_arrive_5)) (os_l (so_ifne d_St_arrive_6 (by decide)))))) (os_n (os_n (os_l (so_aload_n d_St_arrive_9 rfl)) (os_n (os_l (so_iload_n d_St_arrive_10 rfl)) (os_l (so_callV (iv := mi_St_forgetCleanings) rfl rfl rfl mw_1133 mw_1135 sl_52 mw_4 mw_1136 ⟨by decide +kernel, by decide +kernel, by decide +kernel⟩ (by decide) d_St_arrive_11)))) (os_n (os_l (so_aload_n d_St_arrive_14 rfl)) (os_n (os_l (so_get (C := R_St) (T := F_St) (N := 12) (j := 3) in_St rfl (by decide) mw_162 d_St_arrive_15)) (os_l (so_iload_n d_St_arrive_18 rfl)))))) (os_n (os_n (os_n (os_l (so_iload_n d_St_arrive_19 rfl)) (os_l (so_iastore d_St_arrive_20))) (os_n (os_l (so_aload_n d_St_arrive_21 rfl)) (os_n (os_l (so_get (C := R_St) (T := F_St) (N := 12) (j := 4) in_St rfl (by decide) mw_167 d_St_arrive_22)) (os_l (so_iload_n d_St_arrive_25 rfl))))) (os_n (os_n (os_l (so_dup2 d_St_arrive_26)) (os_n (os_l (so_iaload d_St_arrive_27)) (os_l (so_iload_n d_St_arrive_28 rfl)))) (os_n (os_l (so_iadd d_St_arrive_29)) (os_n (os_l (so_iastore d_St_arrive_30)) (os_l (so_return rfl d_St_arrive_31)))))))
abbrev t_St_leave_61 : List UInt8 := 177 :: []
abbrev t_St_leave_58 : List UInt8 := 182 :: 0 :: 90 :: t_St_leave_61
abbrev t_St_leave_57 : List UInt8 := 27 :: t_St_leave_58
abbrev t_St_leave_56 : List UInt8 := 42 :: t_St_leave_57
abbrev t_St_leave_55 : List UInt8 := 79 :: t_St_leave_56
abbrev t_St_leave_54 : List UInt8 := 3 :: t_St_leave_55
abbrev t_St_leave_53 : List UInt8 := 27 :: t_St_leave_54
abbrev t_St_leave_50 : List UInt8 := 180 :: 0 :: 22 :: t_St_leave_53
abbrev t_St_leave_49 : List UInt8 := 42 :: t_St_leave_50
abbrev t_St_leave_48 : List UInt8 := 79 :: t_St_leave_49
abbrev t_St_leave_47 : List UInt8 := 46 :: t_St_leave_48
abbrev t_St_leave_46 : List UInt8 := 27 :: t_St_leave_47
abbrev t_St_leave_43 : List UInt8 := 180 :: 0 :: 22 :: t_St_leave_46
abbrev t_St_leave_42 : List UInt8 := 42 :: t_St_leave_43
abbrev t_St_leave_41 : List UInt8 := 27 :: t_St_leave_42
abbrev t_St_leave_38 : List UInt8 := 180 :: 0 :: 28 :: t_St_leave_41
abbrev t_St_leave_37 : List UInt8 := 42 :: t_St_leave_38
abbrev t_St_leave_34 : List UInt8 := 154 :: 0 :: 27 :: t_St_leave_37
abbrev t_St_leave_33 : List UInt8 := 46 :: t_St_leave_34
abbrev t_St_leave_32 : List UInt8 := 27 :: t_St_leave_33
abbrev t_St_leave_29 : List UInt8 := 180 :: 0 :: 25 :: t_St_leave_32
abbrev t_St_leave_28 : List UInt8 := 42 :: t_St_leave_29
abbrev t_St_leave_27 : List UInt8 := 79 :: t_St_leave_28
abbrev t_St_leave_24 : List UInt8 := 184 :: 0 :: 81 :: t_St_leave_27
abbrev t_St_leave_23 : List UInt8 := 100 :: t_St_leave_24
abbrev t_St_leave_22 : List UInt8 := 28 :: t_St_leave_23
abbrev t_St_leave_21 : List UInt8 := 46 :: t_St_leave_22
abbrev t_St_leave_20 : List UInt8 := 27 :: t_St_leave_21
abbrev t_St_leave_17 : List UInt8 := 180 :: 0 :: 25 :: t_St_leave_20
abbrev t_St_leave_16 : List UInt8 := 42 :: t_St_leave_17
abbrev t_St_leave_15 : List UInt8 := 3 :: t_St_leave_16
abbrev t_St_leave_14 : List UInt8 := 27 :: t_St_leave_15
abbrev t_St_leave_11 : List UInt8 := 180 :: 0 :: 25 :: t_St_leave_14
abbrev t_St_leave_10 : List UInt8 := 42 :: t_St_leave_11
abbrev t_St_leave_9 : List UInt8 := 177 :: t_St_leave_10
abbrev t_St_leave_6 : List UInt8 := 154 :: 0 :: 4 :: t_St_leave_9
abbrev t_St_leave_5 : List UInt8 := 46 :: t_St_leave_6
abbrev t_St_leave_4 : List UInt8 := 27 :: t_St_leave_5
abbrev t_St_leave_1 : List UInt8 := 180 :: 0 :: 22 :: t_St_leave_4
abbrev t_St_leave_0 : List UInt8 := 42 :: t_St_leave_1
theorem a_St_leave_0 : dk_at b_St_leave 0 t_St_leave_0 := dk_start (by decide +kernel)
theorem a_St_leave_1 : dk_at b_St_leave 1 t_St_leave_1 := dk_go 1 a_St_leave_0 rfl
theorem a_St_leave_4 : dk_at b_St_leave 4 t_St_leave_4 := dk_go 3 a_St_leave_1 rfl
theorem a_St_leave_5 : dk_at b_St_leave 5 t_St_leave_5 := dk_go 1 a_St_leave_4 rfl
theorem a_St_leave_6 : dk_at b_St_leave 6 t_St_leave_6 := dk_go 1 a_St_leave_5 rfl
theorem a_St_leave_9 : dk_at b_St_leave 9 t_St_leave_9 := dk_go 3 a_St_leave_6 rfl
theorem a_St_leave_10 : dk_at b_St_leave 10 t_St_leave_10 := dk_go 1 a_St_leave_9 rfl
theorem a_St_leave_11 : dk_at b_St_leave 11 t_St_leave_11 := dk_go 1 a_St_leave_10 rfl
theorem a_St_leave_14 : dk_at b_St_leave 14 t_St_leave_14 := dk_go 3 a_St_leave_11 rfl
theorem a_St_leave_15 : dk_at b_St_leave 15 t_St_leave_15 := dk_go 1 a_St_leave_14 rfl
theorem a_St_leave_16 : dk_at b_St_leave 16 t_St_leave_16 := dk_go 1 a_St_leave_15 rfl
theorem a_St_leave_17 : dk_at b_St_leave 17 t_St_leave_17 := dk_go 1 a_St_leave_16 rfl
theorem a_St_leave_20 : dk_at b_St_leave 20 t_St_leave_20 := dk_go 3 a_St_leave_17 rfl
theorem a_St_leave_21 : dk_at b_St_leave 21 t_St_leave_21 := dk_go 1 a_St_leave_20 rfl
theorem a_St_leave_22 : dk_at b_St_leave 22 t_St_leave_22 := dk_go 1 a_St_leave_21 rfl
theorem a_St_leave_23 : dk_at b_St_leave 23 t_St_leave_23 := dk_go 1 a_St_leave_22 rfl
theorem a_St_leave_24 : dk_at b_St_leave 24 t_St_leave_24 := dk_go 1 a_St_leave_23 rfl
theorem a_St_leave_27 : dk_at b_St_leave 27 t_St_leave_27 := dk_go 3 a_St_leave_24 rfl
theorem a_St_leave_28 : dk_at b_St_leave 28 t_St_leave_28 := dk_go 1 a_St_leave_27 rfl
theorem a_St_leave_29 : dk_at b_St_leave 29 t_St_leave_29 := dk_go 1 a_St_leave_28 rfl
theorem a_St_leave_32 : dk_at b_St_leave 32 t_St_leave_32 := dk_go 3 a_St_leave_29 rfl
theorem a_St_leave_33 : dk_at b_St_leave 33 t_St_leave_33 := dk_go 1 a_St_leave_32 rfl
theorem a_St_leave_34 : dk_at b_St_leave 34 t_St_leave_34 := dk_go 1 a_St_leave_33 rfl
theorem a_St_leave_37 : dk_at b_St_leave 37 t_St_leave_37 := dk_go 3 a_St_leave_34 rfl
theorem a_St_leave_38 : dk_at b_St_leave 38 t_St_leave_38 := dk_go 1 a_St_leave_37 rfl
theorem a_St_leave_41 : dk_at b_St_leave 41 t_St_leave_41 := dk_go 3 a_St_leave_38 rfl
theorem a_St_leave_42 : dk_at b_St_leave 42 t_St_leave_42 := dk_go 1 a_St_leave_41 rfl
theorem a_St_leave_43 : dk_at b_St_leave 43 t_St_leave_43 := dk_go 1 a_St_leave_42 rfl
theorem a_St_leave_46 : dk_at b_St_leave 46 t_St_leave_46 := dk_go 3 a_St_leave_43 rfl
theorem a_St_leave_47 : dk_at b_St_leave 47 t_St_leave_47 := dk_go 1 a_St_leave_46 rfl
theorem a_St_leave_48 : dk_at b_St_leave 48 t_St_leave_48 := dk_go 1 a_St_leave_47 rfl
theorem a_St_leave_49 : dk_at b_St_leave 49 t_St_leave_49 := dk_go 1 a_St_leave_48 rfl
theorem a_St_leave_50 : dk_at b_St_leave 50 t_St_leave_50 := dk_go 1 a_St_leave_49 rfl
theorem a_St_leave_53 : dk_at b_St_leave 53 t_St_leave_53 := dk_go 3 a_St_leave_50 rfl
theorem a_St_leave_54 : dk_at b_St_leave 54 t_St_leave_54 := dk_go 1 a_St_leave_53 rfl
theorem a_St_leave_55 : dk_at b_St_leave 55 t_St_leave_55 := dk_go 1 a_St_leave_54 rfl
theorem a_St_leave_56 : dk_at b_St_leave 56 t_St_leave_56 := dk_go 1 a_St_leave_55 rfl
theorem a_St_leave_57 : dk_at b_St_leave 57 t_St_leave_57 := dk_go 1 a_St_leave_56 rfl
theorem a_St_leave_58 : dk_at b_St_leave 58 t_St_leave_58 := dk_go 1 a_St_leave_57 rfl
theorem a_St_leave_61 : dk_at b_St_leave 61 t_St_leave_61 := dk_go 3 a_St_leave_58 rfl
theorem d_St_leave_0 : decode b_St_leave 0 = .ok (.aload_n 0, 1) := dk_0 a_St_leave_0 (dko_42 _)
theorem d_St_leave_1 : decode b_St_leave 1 = .ok (.getfield 22, 3) := dk_U2 a_St_leave_1 (dko_180 _) rfl
theorem d_St_leave_4 : decode b_St_leave 4 = .ok (.iload_n 1, 1) := dk_0 a_St_leave_4 (dko_27 _)
theorem d_St_leave_5 : decode b_St_leave 5 = .ok (.iaload, 1) := dk_0 a_St_leave_5 (dko_46 _)
theorem d_St_leave_6 : decode b_St_leave 6 = .ok (.ifCond .ne 4, 3) := dk_S2 a_St_leave_6 (dko_154 _) (by decide +kernel)
theorem d_St_leave_9 : decode b_St_leave 9 = .ok (.return_, 1) := dk_0 a_St_leave_9 (dko_177 _)
theorem d_St_leave_10 : decode b_St_leave 10 = .ok (.aload_n 0, 1) := dk_0 a_St_leave_10 (dko_42 _)
theorem d_St_leave_11 : decode b_St_leave 11 = .ok (.getfield 25, 3) := dk_U2 a_St_leave_11 (dko_180 _) rfl
theorem d_St_leave_14 : decode b_St_leave 14 = .ok (.iload_n 1, 1) := dk_0 a_St_leave_14 (dko_27 _)
theorem d_St_leave_15 : decode b_St_leave 15 = .ok (.iconst 0, 1) := dk_0 a_St_leave_15 (dko_3 _)
theorem d_St_leave_16 : decode b_St_leave 16 = .ok (.aload_n 0, 1) := dk_0 a_St_leave_16 (dko_42 _)
theorem d_St_leave_17 : decode b_St_leave 17 = .ok (.getfield 25, 3) := dk_U2 a_St_leave_17 (dko_180 _) rfl
theorem d_St_leave_20 : decode b_St_leave 20 = .ok (.iload_n 1, 1) := dk_0 a_St_leave_20 (dko_27 _)
theorem d_St_leave_21 : decode b_St_leave 21 = .ok (.iaload, 1) := dk_0 a_St_leave_21 (dko_46 _)
theorem d_St_leave_22 : decode b_St_leave 22 = .ok (.iload_n 2, 1) := dk_0 a_St_leave_22 (dko_28 _)
theorem d_St_leave_23 : decode b_St_leave 23 = .ok (.isub, 1) := dk_0 a_St_leave_23 (dko_100 _)
theorem d_St_leave_24 : decode b_St_leave 24 = .ok (.invokestatic 81, 3) := dk_U2 a_St_leave_24 (dko_184 _) rfl
theorem d_St_leave_27 : decode b_St_leave 27 = .ok (.iastore, 1) := dk_0 a_St_leave_27 (dko_79 _)
theorem d_St_leave_28 : decode b_St_leave 28 = .ok (.aload_n 0, 1) := dk_0 a_St_leave_28 (dko_42 _)
theorem d_St_leave_29 : decode b_St_leave 29 = .ok (.getfield 25, 3) := dk_U2 a_St_leave_29 (dko_180 _) rfl
theorem d_St_leave_32 : decode b_St_leave 32 = .ok (.iload_n 1, 1) := dk_0 a_St_leave_32 (dko_27 _)
theorem d_St_leave_33 : decode b_St_leave 33 = .ok (.iaload, 1) := dk_0 a_St_leave_33 (dko_46 _)
theorem d_St_leave_34 : decode b_St_leave 34 = .ok (.ifCond .ne 27, 3) := dk_S2 a_St_leave_34 (dko_154 _) (by decide +kernel)
theorem d_St_leave_37 : decode b_St_leave 37 = .ok (.aload_n 0, 1) := dk_0 a_St_leave_37 (dko_42 _)
theorem d_St_leave_38 : decode b_St_leave 38 = .ok (.getfield 28, 3) := dk_U2 a_St_leave_38 (dko_180 _) rfl
theorem d_St_leave_41 : decode b_St_leave 41 = .ok (.iload_n 1, 1) := dk_0 a_St_leave_41 (dko_27 _)
theorem d_St_leave_42 : decode b_St_leave 42 = .ok (.aload_n 0, 1) := dk_0 a_St_leave_42 (dko_42 _)
theorem d_St_leave_43 : decode b_St_leave 43 = .ok (.getfield 22, 3) := dk_U2 a_St_leave_43 (dko_180 _) rfl
theorem d_St_leave_46 : decode b_St_leave 46 = .ok (.iload_n 1, 1) := dk_0 a_St_leave_46 (dko_27 _)
theorem d_St_leave_47 : decode b_St_leave 47 = .ok (.iaload, 1) := dk_0 a_St_leave_47 (dko_46 _)
theorem d_St_leave_48 : decode b_St_leave 48 = .ok (.iastore, 1) := dk_0 a_St_leave_48 (dko_79 _)
theorem d_St_leave_49 : decode b_St_leave 49 = .ok (.aload_n 0, 1) := dk_0 a_St_leave_49 (dko_42 _)
theorem d_St_leave_50 : decode b_St_leave 50 = .ok (.getfield 22, 3) := dk_U2 a_St_leave_50 (dko_180 _) rfl
theorem d_St_leave_53 : decode b_St_leave 53 = .ok (.iload_n 1, 1) := dk_0 a_St_leave_53 (dko_27 _)
theorem d_St_leave_54 : decode b_St_leave 54 = .ok (.iconst 0, 1) := dk_0 a_St_leave_54 (dko_3 _)
theorem d_St_leave_55 : decode b_St_leave 55 = .ok (.iastore, 1) := dk_0 a_St_leave_55 (dko_79 _)
theorem d_St_leave_56 : decode b_St_leave 56 = .ok (.aload_n 0, 1) := dk_0 a_St_leave_56 (dko_42 _)
theorem d_St_leave_57 : decode b_St_leave 57 = .ok (.iload_n 1, 1) := dk_0 a_St_leave_57 (dko_27 _)
theorem d_St_leave_58 : decode b_St_leave 58 = .ok (.invokevirtual 90, 3) := dk_U2 a_St_leave_58 (dko_182 _) rfl
theorem d_St_leave_61 : decode b_St_leave 61 = .ok (.return_, 1) := dk_0 a_St_leave_61 (dko_177 _)
set_option maxHeartbeats 4000000 in
set_option maxRecDepth 100000 in
theorem ok_St_leave (pc : Nat) : OpS mt mi_St_leave pc (cs_St_leave pc) := (os_n (os_n (os_n (os_n (os_n (os_l (so_aload_n d_St_leave_0 rfl)) (os_l (so_get (C := R_St) (T := F_St) (N := 12) (j := 3) in_St rfl (by decide) mw_162 d_St_leave_1))) (os_n (os_l (so_iload_n d_St_leave_4 rfl)) (os_n (os_l (so_iaload d_St_leave_5)) (os_l (so_ifne d_St_leave_6 (by decide)))))) (os_n (os_n (os_l (so_return rfl d_St_leave_9)) (os_l (so_aload_n d_St_leave_10 rfl))) (os_n (os_l (so_get (C := R_St) (T := F_St) (N := 12) (j := 4) in_St rfl (by decide) mw_167 d_St_leave_11)) (os_n (os_l (so_iload_n d_St_leave_14 rfl)) (os_l (so_iconst d_St_leave_15 (by decide))))))) (os_n (os_n (os_n (os_l (so_aload_n d_St_leave_16 rfl)) (os_l (so_get (C := R_St) (T := F_St) (N := 12) (j := 4) in_St rfl (by decide) mw_167 d_St_leave_17))) (os_n (os_l (so_iload_n d_St_leave_20 rfl)) (os_n (os_l (so_iaload d_St_leave_21)) (os_l (so_iload_n d_St_leave_22 rfl))))) (os_n (os_n (os_l (so_isub d_St_leave_23)) (os_l (so_callS (iv := mi_Ma_max) rfl mw_1091 mw_973 mw_21 mw_974 ⟨by decide +kernel, by decide +kernel, by decide +kernel⟩ (by decide) d_St_leave_24))) (os_n (os_l (so_iastore d_St_leave_27)) (os_n (os_l (so_aload_n d_St_leave_28 rfl)) (os_l (so_get (C := R_St) (T := F_St) (N := 12) (j := 4) in_St rfl (by decide) mw_167 d_St_leave_29))))))) (os_n (os_n (os_n (os_n (os_l (so_iload_n d_St_leave_32 rfl)) (os_l (so_iaload d_St_leave_33))) (os_n (os_l (so_ifne d_St_leave_34 (by decide))) (os_n (os_l (so_aload_n d_St_leave_37 rfl)) (os_l (so_get (C := R_St) (T := F_St) (N := 12) (j := 5) in_St rfl (by decide) mw_171 d_St_leave_38))))) (os_n (os_n (os_l (so_iload_n d_St_leave_41 rfl)) (os_l (so_aload_n d_St_leave_42 rfl))) (os_n (os_l (so_get (C := R_St) (T := F_St) (N := 12) (j := 3) in_St rfl (by decide) mw_162 d_St_leave_43)) (os_n (os_l (so_iload_n d_St_leave_46 rfl)) (os_l (so_iaload d_St_leave_47)))))) (os_n (os_n (os_n (os_l (so_iastore d_St_leave_48)) (os_l (so_aload_n d_St_leave_49 rfl))) (os_n (os_l (so_get (C := R_St) (T := F_St) (N := 12) (j := 3) in_St rfl (by decide) mw_162 d_St_leave_50)) (os_n (os_l (so_iload_n d_St_leave_53 rfl)) (os_l (so_iconst d_St_leave_54 (by decide)))))) (os_n (os_n (os_l (so_iastore d_St_leave_55)) (os_l (so_aload_n d_St_leave_56 rfl))) (os_n (os_l (so_iload_n d_St_leave_57 rfl)) (os_n (os_l (so_callV (iv := mi_St_forgetCleanings) rfl rfl rfl mw_1133 mw_1135 sl_52 mw_4 mw_1136 ⟨by decide +kernel, by decide +kernel, by decide +kernel⟩ (by decide) d_St_leave_58)) (os_l (so_return rfl d_St_leave_61))))))))
abbrev t_St_emptyCells_38 : List UInt8 := 177 :: []
abbrev t_St_emptyCells_35 : List UInt8 := 167 :: 255 :: 233 :: t_St_emptyCells_38
abbrev t_St_emptyCells_32 : List UInt8 := 132 :: 3 :: 1 :: t_St_emptyCells_35
abbrev t_St_emptyCells_31 : List UInt8 := 80 :: t_St_emptyCells_32
abbrev t_St_emptyCells_30 : List UInt8 := 9 :: t_St_emptyCells_31
abbrev t_St_emptyCells_29 : List UInt8 := 96 :: t_St_emptyCells_30
abbrev t_St_emptyCells_28 : List UInt8 := 29 :: t_St_emptyCells_29
abbrev t_St_emptyCells_27 : List UInt8 := 104 :: t_St_emptyCells_28
abbrev t_St_emptyCells_26 : List UInt8 := 7 :: t_St_emptyCells_27
abbrev t_St_emptyCells_25 : List UInt8 := 28 :: t_St_emptyCells_26
abbrev t_St_emptyCells_22 : List UInt8 := 180 :: 0 :: 34 :: t_St_emptyCells_25
abbrev t_St_emptyCells_21 : List UInt8 := 42 :: t_St_emptyCells_22
abbrev t_St_emptyCells_18 : List UInt8 := 162 :: 0 :: 20 :: t_St_emptyCells_21
abbrev t_St_emptyCells_17 : List UInt8 := 7 :: t_St_emptyCells_18
abbrev t_St_emptyCells_16 : List UInt8 := 29 :: t_St_emptyCells_17
abbrev t_St_emptyCells_13 : List UInt8 := 155 :: 0 :: 25 :: t_St_emptyCells_16
abbrev t_St_emptyCells_12 : List UInt8 := 28 :: t_St_emptyCells_13
abbrev t_St_emptyCells_11 : List UInt8 := 62 :: t_St_emptyCells_12
abbrev t_St_emptyCells_10 : List UInt8 := 3 :: t_St_emptyCells_11
abbrev t_St_emptyCells_9 : List UInt8 := 61 :: t_St_emptyCells_10
abbrev t_St_emptyCells_8 : List UInt8 := 100 :: t_St_emptyCells_9
abbrev t_St_emptyCells_5 : List UInt8 := 180 :: 0 :: 60 :: t_St_emptyCells_8
abbrev t_St_emptyCells_2 : List UInt8 := 180 :: 0 :: 12 :: t_St_emptyCells_5
abbrev t_St_emptyCells_1 : List UInt8 := 42 :: t_St_emptyCells_2
abbrev t_St_emptyCells_0 : List UInt8 := 27 :: t_St_emptyCells_1
theorem a_St_emptyCells_0 : dk_at b_St_emptyCells 0 t_St_emptyCells_0 := dk_start (by decide +kernel)
theorem a_St_emptyCells_1 : dk_at b_St_emptyCells 1 t_St_emptyCells_1 := dk_go 1 a_St_emptyCells_0 rfl
theorem a_St_emptyCells_2 : dk_at b_St_emptyCells 2 t_St_emptyCells_2 := dk_go 1 a_St_emptyCells_1 rfl
theorem a_St_emptyCells_5 : dk_at b_St_emptyCells 5 t_St_emptyCells_5 := dk_go 3 a_St_emptyCells_2 rfl
theorem a_St_emptyCells_8 : dk_at b_St_emptyCells 8 t_St_emptyCells_8 := dk_go 3 a_St_emptyCells_5 rfl
theorem a_St_emptyCells_9 : dk_at b_St_emptyCells 9 t_St_emptyCells_9 := dk_go 1 a_St_emptyCells_8 rfl
theorem a_St_emptyCells_10 : dk_at b_St_emptyCells 10 t_St_emptyCells_10 := dk_go 1 a_St_emptyCells_9 rfl
theorem a_St_emptyCells_11 : dk_at b_St_emptyCells 11 t_St_emptyCells_11 := dk_go 1 a_St_emptyCells_10 rfl
theorem a_St_emptyCells_12 : dk_at b_St_emptyCells 12 t_St_emptyCells_12 := dk_go 1 a_St_emptyCells_11 rfl
theorem a_St_emptyCells_13 : dk_at b_St_emptyCells 13 t_St_emptyCells_13 := dk_go 1 a_St_emptyCells_12 rfl
theorem a_St_emptyCells_16 : dk_at b_St_emptyCells 16 t_St_emptyCells_16 := dk_go 3 a_St_emptyCells_13 rfl
theorem a_St_emptyCells_17 : dk_at b_St_emptyCells 17 t_St_emptyCells_17 := dk_go 1 a_St_emptyCells_16 rfl
theorem a_St_emptyCells_18 : dk_at b_St_emptyCells 18 t_St_emptyCells_18 := dk_go 1 a_St_emptyCells_17 rfl
theorem a_St_emptyCells_21 : dk_at b_St_emptyCells 21 t_St_emptyCells_21 := dk_go 3 a_St_emptyCells_18 rfl
theorem a_St_emptyCells_22 : dk_at b_St_emptyCells 22 t_St_emptyCells_22 := dk_go 1 a_St_emptyCells_21 rfl
theorem a_St_emptyCells_25 : dk_at b_St_emptyCells 25 t_St_emptyCells_25 := dk_go 3 a_St_emptyCells_22 rfl
theorem a_St_emptyCells_26 : dk_at b_St_emptyCells 26 t_St_emptyCells_26 := dk_go 1 a_St_emptyCells_25 rfl
theorem a_St_emptyCells_27 : dk_at b_St_emptyCells 27 t_St_emptyCells_27 := dk_go 1 a_St_emptyCells_26 rfl
theorem a_St_emptyCells_28 : dk_at b_St_emptyCells 28 t_St_emptyCells_28 := dk_go 1 a_St_emptyCells_27 rfl
theorem a_St_emptyCells_29 : dk_at b_St_emptyCells 29 t_St_emptyCells_29 := dk_go 1 a_St_emptyCells_28 rfl
theorem a_St_emptyCells_30 : dk_at b_St_emptyCells 30 t_St_emptyCells_30 := dk_go 1 a_St_emptyCells_29 rfl
theorem a_St_emptyCells_31 : dk_at b_St_emptyCells 31 t_St_emptyCells_31 := dk_go 1 a_St_emptyCells_30 rfl
theorem a_St_emptyCells_32 : dk_at b_St_emptyCells 32 t_St_emptyCells_32 := dk_go 1 a_St_emptyCells_31 rfl
theorem a_St_emptyCells_35 : dk_at b_St_emptyCells 35 t_St_emptyCells_35 := dk_go 3 a_St_emptyCells_32 rfl
theorem a_St_emptyCells_38 : dk_at b_St_emptyCells 38 t_St_emptyCells_38 := dk_go 3 a_St_emptyCells_35 rfl
theorem d_St_emptyCells_0 : decode b_St_emptyCells 0 = .ok (.iload_n 1, 1) := dk_0 a_St_emptyCells_0 (dko_27 _)
theorem d_St_emptyCells_1 : decode b_St_emptyCells 1 = .ok (.aload_n 0, 1) := dk_0 a_St_emptyCells_1 (dko_42 _)
theorem d_St_emptyCells_2 : decode b_St_emptyCells 2 = .ok (.getfield 12, 3) := dk_U2 a_St_emptyCells_2 (dko_180 _) rfl
theorem d_St_emptyCells_5 : decode b_St_emptyCells 5 = .ok (.getfield 60, 3) := dk_U2 a_St_emptyCells_5 (dko_180 _) rfl
theorem d_St_emptyCells_8 : decode b_St_emptyCells 8 = .ok (.isub, 1) := dk_0 a_St_emptyCells_8 (dko_100 _)
theorem d_St_emptyCells_9 : decode b_St_emptyCells 9 = .ok (.istore_n 2, 1) := dk_0 a_St_emptyCells_9 (dko_61 _)
theorem d_St_emptyCells_10 : decode b_St_emptyCells 10 = .ok (.iconst 0, 1) := dk_0 a_St_emptyCells_10 (dko_3 _)
theorem d_St_emptyCells_11 : decode b_St_emptyCells 11 = .ok (.istore_n 3, 1) := dk_0 a_St_emptyCells_11 (dko_62 _)
theorem d_St_emptyCells_12 : decode b_St_emptyCells 12 = .ok (.iload_n 2, 1) := dk_0 a_St_emptyCells_12 (dko_28 _)
theorem d_St_emptyCells_13 : decode b_St_emptyCells 13 = .ok (.ifCond .lt 25, 3) := dk_S2 a_St_emptyCells_13 (dko_155 _) (by decide +kernel)
theorem d_St_emptyCells_16 : decode b_St_emptyCells 16 = .ok (.iload_n 3, 1) := dk_0 a_St_emptyCells_16 (dko_29 _)
theorem d_St_emptyCells_17 : decode b_St_emptyCells 17 = .ok (.iconst 4, 1) := dk_0 a_St_emptyCells_17 (dko_7 _)
theorem d_St_emptyCells_18 : decode b_St_emptyCells 18 = .ok (.if_icmp .ge 20, 3) := dk_S2 a_St_emptyCells_18 (dko_162 _) (by decide +kernel)
theorem d_St_emptyCells_21 : decode b_St_emptyCells 21 = .ok (.aload_n 0, 1) := dk_0 a_St_emptyCells_21 (dko_42 _)
theorem d_St_emptyCells_22 : decode b_St_emptyCells 22 = .ok (.getfield 34, 3) := dk_U2 a_St_emptyCells_22 (dko_180 _) rfl
theorem d_St_emptyCells_25 : decode b_St_emptyCells 25 = .ok (.iload_n 2, 1) := dk_0 a_St_emptyCells_25 (dko_28 _)
theorem d_St_emptyCells_26 : decode b_St_emptyCells 26 = .ok (.iconst 4, 1) := dk_0 a_St_emptyCells_26 (dko_7 _)
theorem d_St_emptyCells_27 : decode b_St_emptyCells 27 = .ok (.imul, 1) := dk_0 a_St_emptyCells_27 (dko_104 _)
theorem d_St_emptyCells_28 : decode b_St_emptyCells 28 = .ok (.iload_n 3, 1) := dk_0 a_St_emptyCells_28 (dko_29 _)
theorem d_St_emptyCells_29 : decode b_St_emptyCells 29 = .ok (.iadd, 1) := dk_0 a_St_emptyCells_29 (dko_96 _)
theorem d_St_emptyCells_30 : decode b_St_emptyCells 30 = .ok (.lconst 0, 1) := dk_0 a_St_emptyCells_30 (dko_9 _)
theorem d_St_emptyCells_31 : decode b_St_emptyCells 31 = .ok (.lastore, 1) := dk_0 a_St_emptyCells_31 (dko_80 _)
theorem d_St_emptyCells_32 : decode b_St_emptyCells 32 = .ok (.iinc 3 1, 3) := dk_US a_St_emptyCells_32 (dko_132 _) (by decide +kernel)
theorem d_St_emptyCells_35 : decode b_St_emptyCells 35 = .ok (.goto (-23), 3) := dk_S2 a_St_emptyCells_35 (dko_167 _) (by decide +kernel)
theorem d_St_emptyCells_38 : decode b_St_emptyCells 38 = .ok (.return_, 1) := dk_0 a_St_emptyCells_38 (dko_177 _)
set_option maxHeartbeats 4000000 in
set_option maxRecDepth 100000 in
theorem ok_St_emptyCells (pc : Nat) : OpS mt mi_St_emptyCells pc (cs_St_emptyCells pc) := (os_n (os_n (os_n (os_n (os_l (so_iload_n d_St_emptyCells_0 rfl)) (os_n (os_l (so_aload_n d_St_emptyCells_1 rfl)) (os_l (so_get (C := R_St) (T := F_St) (N := 12) (j := 0) in_St rfl (by decide) mw_149 d_St_emptyCells_2)))) (os_n (os_l (so_get (C := R_Pl) (T := F_Pl) (N := 12) (j := 0) in_Pl rfl (by decide) mw_88 d_St_emptyCells_5)) (os_n (os_l (so_isub d_St_emptyCells_8)) (os_l (so_istore_n d_St_emptyCells_9 rfl (by decide)))))) (os_n (os_n (os_l (so_iconst d_St_emptyCells_10 (by decide))) (os_n (os_l (so_istore_n d_St_emptyCells_11 rfl (by decide))) (os_l (so_iload_n d_St_emptyCells_12 rfl)))) (os_n (os_l (so_iflt d_St_emptyCells_13 (by decide))) (os_n (os_l (so_iload_n d_St_emptyCells_16 rfl)) (os_l (so_iconst d_St_emptyCells_17 (by decide))))))) (os_n (os_n (os_n (os_l (so_icge d_St_emptyCells_18 (by decide))) (os_n (os_l (so_aload_n d_St_emptyCells_21 rfl)) (os_l (so_get (C := R_St) (T := F_St) (N := 12) (j := 7) in_St rfl (by decide) mw_174 d_St_emptyCells_22)))) (os_n (os_l (so_iload_n d_St_emptyCells_25 rfl)) (os_n (os_l (so_iconst d_St_emptyCells_26 (by decide))) (os_l (so_imul d_St_emptyCells_27))))) (os_n (os_n (os_l (so_iload_n d_St_emptyCells_28 rfl)) (os_n (os_l (so_iadd d_St_emptyCells_29)) (os_l (so_lconst d_St_emptyCells_30 (by decide))))) (os_n (os_n (os_l (so_lastore d_St_emptyCells_31)) (os_l (so_iinc d_St_emptyCells_32 (by decide) (by decide)))) (os_n (os_l (so_goto d_St_emptyCells_35 (by decide))) (os_l (so_return rfl d_St_emptyCells_38)))))))
abbrev t_St_leavingCell_39 : List UInt8 := 172 :: []
abbrev t_St_leavingCell_38 : List UInt8 := 46 :: t_St_leavingCell_39
abbrev t_St_leavingCell_37 : List UInt8 := 27 :: t_St_leavingCell_38
abbrev t_St_leavingCell_34 : List UInt8 := 180 :: 0 :: 38 :: t_St_leavingCell_37
abbrev t_St_leavingCell_33 : List UInt8 := 42 :: t_St_leavingCell_34
abbrev t_St_leavingCell_30 : List UInt8 := 167 :: 0 :: 9 :: t_St_leavingCell_33
abbrev t_St_leavingCell_29 : List UInt8 := 112 :: t_St_leavingCell_30
abbrev t_St_leavingCell_28 : List UInt8 := 29 :: t_St_leavingCell_29
abbrev t_St_leavingCell_27 : List UInt8 := 100 :: t_St_leavingCell_28
abbrev t_St_leavingCell_26 : List UInt8 := 4 :: t_St_leavingCell_27
abbrev t_St_leavingCell_25 : List UInt8 := 96 :: t_St_leavingCell_26
abbrev t_St_leavingCell_24 : List UInt8 := 29 :: t_St_leavingCell_25
abbrev t_St_leavingCell_23 : List UInt8 := 46 :: t_St_leavingCell_24
abbrev t_St_leavingCell_22 : List UInt8 := 27 :: t_St_leavingCell_23
abbrev t_St_leavingCell_19 : List UInt8 := 180 :: 0 :: 38 :: t_St_leavingCell_22
abbrev t_St_leavingCell_18 : List UInt8 := 42 :: t_St_leavingCell_19
abbrev t_St_leavingCell_15 : List UInt8 := 158 :: 0 :: 18 :: t_St_leavingCell_18
abbrev t_St_leavingCell_14 : List UInt8 := 29 :: t_St_leavingCell_15
abbrev t_St_leavingCell_11 : List UInt8 := 153 :: 0 :: 22 :: t_St_leavingCell_14
abbrev t_St_leavingCell_10 : List UInt8 := 28 :: t_St_leavingCell_11
abbrev t_St_leavingCell_9 : List UInt8 := 62 :: t_St_leavingCell_10
abbrev t_St_leavingCell_8 : List UInt8 := 46 :: t_St_leavingCell_9
abbrev t_St_leavingCell_7 : List UInt8 := 27 :: t_St_leavingCell_8
abbrev t_St_leavingCell_4 : List UInt8 := 180 :: 0 :: 94 :: t_St_leavingCell_7
abbrev t_St_leavingCell_1 : List UInt8 := 180 :: 0 :: 12 :: t_St_leavingCell_4
abbrev t_St_leavingCell_0 : List UInt8 := 42 :: t_St_leavingCell_1
theorem a_St_leavingCell_0 : dk_at b_St_leavingCell 0 t_St_leavingCell_0 := dk_start (by decide +kernel)
theorem a_St_leavingCell_1 : dk_at b_St_leavingCell 1 t_St_leavingCell_1 := dk_go 1 a_St_leavingCell_0 rfl
theorem a_St_leavingCell_4 : dk_at b_St_leavingCell 4 t_St_leavingCell_4 := dk_go 3 a_St_leavingCell_1 rfl
theorem a_St_leavingCell_7 : dk_at b_St_leavingCell 7 t_St_leavingCell_7 := dk_go 3 a_St_leavingCell_4 rfl
theorem a_St_leavingCell_8 : dk_at b_St_leavingCell 8 t_St_leavingCell_8 := dk_go 1 a_St_leavingCell_7 rfl
theorem a_St_leavingCell_9 : dk_at b_St_leavingCell 9 t_St_leavingCell_9 := dk_go 1 a_St_leavingCell_8 rfl
theorem a_St_leavingCell_10 : dk_at b_St_leavingCell 10 t_St_leavingCell_10 := dk_go 1 a_St_leavingCell_9 rfl
theorem a_St_leavingCell_11 : dk_at b_St_leavingCell 11 t_St_leavingCell_11 := dk_go 1 a_St_leavingCell_10 rfl
theorem a_St_leavingCell_14 : dk_at b_St_leavingCell 14 t_St_leavingCell_14 := dk_go 3 a_St_leavingCell_11 rfl
theorem a_St_leavingCell_15 : dk_at b_St_leavingCell 15 t_St_leavingCell_15 := dk_go 1 a_St_leavingCell_14 rfl
theorem a_St_leavingCell_18 : dk_at b_St_leavingCell 18 t_St_leavingCell_18 := dk_go 3 a_St_leavingCell_15 rfl
theorem a_St_leavingCell_19 : dk_at b_St_leavingCell 19 t_St_leavingCell_19 := dk_go 1 a_St_leavingCell_18 rfl
theorem a_St_leavingCell_22 : dk_at b_St_leavingCell 22 t_St_leavingCell_22 := dk_go 3 a_St_leavingCell_19 rfl
theorem a_St_leavingCell_23 : dk_at b_St_leavingCell 23 t_St_leavingCell_23 := dk_go 1 a_St_leavingCell_22 rfl
theorem a_St_leavingCell_24 : dk_at b_St_leavingCell 24 t_St_leavingCell_24 := dk_go 1 a_St_leavingCell_23 rfl
theorem a_St_leavingCell_25 : dk_at b_St_leavingCell 25 t_St_leavingCell_25 := dk_go 1 a_St_leavingCell_24 rfl
theorem a_St_leavingCell_26 : dk_at b_St_leavingCell 26 t_St_leavingCell_26 := dk_go 1 a_St_leavingCell_25 rfl
theorem a_St_leavingCell_27 : dk_at b_St_leavingCell 27 t_St_leavingCell_27 := dk_go 1 a_St_leavingCell_26 rfl
theorem a_St_leavingCell_28 : dk_at b_St_leavingCell 28 t_St_leavingCell_28 := dk_go 1 a_St_leavingCell_27 rfl
theorem a_St_leavingCell_29 : dk_at b_St_leavingCell 29 t_St_leavingCell_29 := dk_go 1 a_St_leavingCell_28 rfl
theorem a_St_leavingCell_30 : dk_at b_St_leavingCell 30 t_St_leavingCell_30 := dk_go 1 a_St_leavingCell_29 rfl
theorem a_St_leavingCell_33 : dk_at b_St_leavingCell 33 t_St_leavingCell_33 := dk_go 3 a_St_leavingCell_30 rfl
theorem a_St_leavingCell_34 : dk_at b_St_leavingCell 34 t_St_leavingCell_34 := dk_go 1 a_St_leavingCell_33 rfl
theorem a_St_leavingCell_37 : dk_at b_St_leavingCell 37 t_St_leavingCell_37 := dk_go 3 a_St_leavingCell_34 rfl
theorem a_St_leavingCell_38 : dk_at b_St_leavingCell 38 t_St_leavingCell_38 := dk_go 1 a_St_leavingCell_37 rfl
theorem a_St_leavingCell_39 : dk_at b_St_leavingCell 39 t_St_leavingCell_39 := dk_go 1 a_St_leavingCell_38 rfl
theorem d_St_leavingCell_0 : decode b_St_leavingCell 0 = .ok (.aload_n 0, 1) := dk_0 a_St_leavingCell_0 (dko_42 _)
theorem d_St_leavingCell_1 : decode b_St_leavingCell 1 = .ok (.getfield 12, 3) := dk_U2 a_St_leavingCell_1 (dko_180 _) rfl
theorem d_St_leavingCell_4 : decode b_St_leavingCell 4 = .ok (.getfield 94, 3) := dk_U2 a_St_leavingCell_4 (dko_180 _) rfl
theorem d_St_leavingCell_7 : decode b_St_leavingCell 7 = .ok (.iload_n 1, 1) := dk_0 a_St_leavingCell_7 (dko_27 _)
theorem d_St_leavingCell_8 : decode b_St_leavingCell 8 = .ok (.iaload, 1) := dk_0 a_St_leavingCell_8 (dko_46 _)
theorem d_St_leavingCell_9 : decode b_St_leavingCell 9 = .ok (.istore_n 3, 1) := dk_0 a_St_leavingCell_9 (dko_62 _)
theorem d_St_leavingCell_10 : decode b_St_leavingCell 10 = .ok (.iload_n 2, 1) := dk_0 a_St_leavingCell_10 (dko_28 _)
theorem d_St_leavingCell_11 : decode b_St_leavingCell 11 = .ok (.ifCond .eq 22, 3) := dk_S2 a_St_leavingCell_11 (dko_153 _) (by decide +kernel)
theorem d_St_leavingCell_14 : decode b_St_leavingCell 14 = .ok (.iload_n 3, 1) := dk_0 a_St_leavingCell_14 (dko_29 _)
theorem d_St_leavingCell_15 : decode b_St_leavingCell 15 = .ok (.ifCond .le 18, 3) := dk_S2 a_St_leavingCell_15 (dko_158 _) (by decide +kernel)
theorem d_St_leavingCell_18 : decode b_St_leavingCell 18 = .ok (.aload_n 0, 1) := dk_0 a_St_leavingCell_18 (dko_42 _)
theorem d_St_leavingCell_19 : decode b_St_leavingCell 19 = .ok (.getfield 38, 3) := dk_U2 a_St_leavingCell_19 (dko_180 _) rfl
theorem d_St_leavingCell_22 : decode b_St_leavingCell 22 = .ok (.iload_n 1, 1) := dk_0 a_St_leavingCell_22 (dko_27 _)
theorem d_St_leavingCell_23 : decode b_St_leavingCell 23 = .ok (.iaload, 1) := dk_0 a_St_leavingCell_23 (dko_46 _)
theorem d_St_leavingCell_24 : decode b_St_leavingCell 24 = .ok (.iload_n 3, 1) := dk_0 a_St_leavingCell_24 (dko_29 _)
theorem d_St_leavingCell_25 : decode b_St_leavingCell 25 = .ok (.iadd, 1) := dk_0 a_St_leavingCell_25 (dko_96 _)
theorem d_St_leavingCell_26 : decode b_St_leavingCell 26 = .ok (.iconst 1, 1) := dk_0 a_St_leavingCell_26 (dko_4 _)
theorem d_St_leavingCell_27 : decode b_St_leavingCell 27 = .ok (.isub, 1) := dk_0 a_St_leavingCell_27 (dko_100 _)
theorem d_St_leavingCell_28 : decode b_St_leavingCell 28 = .ok (.iload_n 3, 1) := dk_0 a_St_leavingCell_28 (dko_29 _)
theorem d_St_leavingCell_29 : decode b_St_leavingCell 29 = .ok (.irem, 1) := dk_0 a_St_leavingCell_29 (dko_112 _)
theorem d_St_leavingCell_30 : decode b_St_leavingCell 30 = .ok (.goto 9, 3) := dk_S2 a_St_leavingCell_30 (dko_167 _) (by decide +kernel)
theorem d_St_leavingCell_33 : decode b_St_leavingCell 33 = .ok (.aload_n 0, 1) := dk_0 a_St_leavingCell_33 (dko_42 _)
theorem d_St_leavingCell_34 : decode b_St_leavingCell 34 = .ok (.getfield 38, 3) := dk_U2 a_St_leavingCell_34 (dko_180 _) rfl
theorem d_St_leavingCell_37 : decode b_St_leavingCell 37 = .ok (.iload_n 1, 1) := dk_0 a_St_leavingCell_37 (dko_27 _)
theorem d_St_leavingCell_38 : decode b_St_leavingCell 38 = .ok (.iaload, 1) := dk_0 a_St_leavingCell_38 (dko_46 _)
theorem d_St_leavingCell_39 : decode b_St_leavingCell 39 = .ok (.ireturn, 1) := dk_0 a_St_leavingCell_39 (dko_172 _)
set_option maxHeartbeats 4000000 in
set_option maxRecDepth 100000 in
theorem ok_St_leavingCell (pc : Nat) : OpS mt mi_St_leavingCell pc (cs_St_leavingCell pc) := (os_n (os_n (os_n (os_n (os_l (so_aload_n d_St_leavingCell_0 rfl)) (os_n (os_l (so_get (C := R_St) (T := F_St) (N := 12) (j := 0) in_St rfl (by decide) mw_149 d_St_leavingCell_1)) (os_l (so_get (C := R_Pl) (T := F_Pl) (N := 12) (j := 5) in_Pl rfl (by decide) mw_107 d_St_leavingCell_4)))) (os_n (os_l (so_iload_n d_St_leavingCell_7 rfl)) (os_n (os_l (so_iaload d_St_leavingCell_8)) (os_l (so_istore_n d_St_leavingCell_9 rfl (by decide)))))) (os_n (os_n (os_l (so_iload_n d_St_leavingCell_10 rfl)) (os_n (os_l (so_ifeq d_St_leavingCell_11 (by decide))) (os_l (so_iload_n d_St_leavingCell_14 rfl)))) (os_n (os_n (os_l (so_ifle d_St_leavingCell_15 (by decide))) (os_l (so_aload_n d_St_leavingCell_18 rfl))) (os_n (os_l (so_get (C := R_St) (T := F_St) (N := 12) (j := 8) in_St rfl (by decide) mw_175 d_St_leavingCell_19)) (os_l (so_iload_n d_St_leavingCell_22 rfl)))))) (os_n (os_n (os_n (os_l (so_iaload d_St_leavingCell_23)) (os_n (os_l (so_iload_n d_St_leavingCell_24 rfl)) (os_l (so_iadd d_St_leavingCell_25)))) (os_n (os_l (so_iconst d_St_leavingCell_26 (by decide))) (os_n (os_l (so_isub d_St_leavingCell_27)) (os_l (so_iload_n d_St_leavingCell_28 rfl))))) (os_n (os_n (os_l (so_irem d_St_leavingCell_29)) (os_n (os_l (so_goto d_St_leavingCell_30 (by decide))) (os_l (so_aload_n d_St_leavingCell_33 rfl)))) (os_n (os_n (os_l (so_get (C := R_St) (T := F_St) (N := 12) (j := 8) in_St rfl (by decide) mw_175 d_St_leavingCell_34)) (os_l (so_iload_n d_St_leavingCell_37 rfl))) (os_n (os_l (so_iaload d_St_leavingCell_38)) (os_l (so_ireturn rfl d_St_leavingCell_39)))))))
abbrev t_St_isFull_30 : List UInt8 := 172 :: []
abbrev t_St_isFull_29 : List UInt8 := 3 :: t_St_isFull_30
abbrev t_St_isFull_26 : List UInt8 := 167 :: 0 :: 4 :: t_St_isFull_29
abbrev t_St_isFull_25 : List UInt8 := 4 :: t_St_isFull_26
abbrev t_St_isFull_22 : List UInt8 := 153 :: 0 :: 7 :: t_St_isFull_25
abbrev t_St_isFull_21 : List UInt8 := 148 :: t_St_isFull_22
abbrev t_St_isFull_20 : List UInt8 := 9 :: t_St_isFull_21
abbrev t_St_isFull_19 : List UInt8 := 127 :: t_St_isFull_20
abbrev t_St_isFull_18 : List UInt8 := 10 :: t_St_isFull_19
abbrev t_St_isFull_17 : List UInt8 := 125 :: t_St_isFull_18
abbrev t_St_isFull_16 : List UInt8 := 126 :: t_St_isFull_17
abbrev t_St_isFull_14 : List UInt8 := 16 :: 63 :: t_St_isFull_16
abbrev t_St_isFull_13 : List UInt8 := 28 :: t_St_isFull_14
abbrev t_St_isFull_12 : List UInt8 := 47 :: t_St_isFull_13
abbrev t_St_isFull_11 : List UInt8 := 96 :: t_St_isFull_12
abbrev t_St_isFull_10 : List UInt8 := 122 :: t_St_isFull_11
abbrev t_St_isFull_8 : List UInt8 := 16 :: 6 :: t_St_isFull_10
abbrev t_St_isFull_7 : List UInt8 := 28 :: t_St_isFull_8
abbrev t_St_isFull_6 : List UInt8 := 104 :: t_St_isFull_7
abbrev t_St_isFull_5 : List UInt8 := 7 :: t_St_isFull_6
abbrev t_St_isFull_4 : List UInt8 := 27 :: t_St_isFull_5
abbrev t_St_isFull_1 : List UInt8 := 180 :: 0 :: 34 :: t_St_isFull_4
abbrev t_St_isFull_0 : List UInt8 := 42 :: t_St_isFull_1
theorem a_St_isFull_0 : dk_at b_St_isFull 0 t_St_isFull_0 := dk_start (by decide +kernel)
theorem a_St_isFull_1 : dk_at b_St_isFull 1 t_St_isFull_1 := dk_go 1 a_St_isFull_0 rfl
theorem a_St_isFull_4 : dk_at b_St_isFull 4 t_St_isFull_4 := dk_go 3 a_St_isFull_1 rfl
theorem a_St_isFull_5 : dk_at b_St_isFull 5 t_St_isFull_5 := dk_go 1 a_St_isFull_4 rfl
theorem a_St_isFull_6 : dk_at b_St_isFull 6 t_St_isFull_6 := dk_go 1 a_St_isFull_5 rfl
theorem a_St_isFull_7 : dk_at b_St_isFull 7 t_St_isFull_7 := dk_go 1 a_St_isFull_6 rfl
theorem a_St_isFull_8 : dk_at b_St_isFull 8 t_St_isFull_8 := dk_go 1 a_St_isFull_7 rfl
theorem a_St_isFull_10 : dk_at b_St_isFull 10 t_St_isFull_10 := dk_go 2 a_St_isFull_8 rfl
theorem a_St_isFull_11 : dk_at b_St_isFull 11 t_St_isFull_11 := dk_go 1 a_St_isFull_10 rfl
theorem a_St_isFull_12 : dk_at b_St_isFull 12 t_St_isFull_12 := dk_go 1 a_St_isFull_11 rfl
theorem a_St_isFull_13 : dk_at b_St_isFull 13 t_St_isFull_13 := dk_go 1 a_St_isFull_12 rfl
theorem a_St_isFull_14 : dk_at b_St_isFull 14 t_St_isFull_14 := dk_go 1 a_St_isFull_13 rfl
theorem a_St_isFull_16 : dk_at b_St_isFull 16 t_St_isFull_16 := dk_go 2 a_St_isFull_14 rfl
theorem a_St_isFull_17 : dk_at b_St_isFull 17 t_St_isFull_17 := dk_go 1 a_St_isFull_16 rfl
theorem a_St_isFull_18 : dk_at b_St_isFull 18 t_St_isFull_18 := dk_go 1 a_St_isFull_17 rfl
theorem a_St_isFull_19 : dk_at b_St_isFull 19 t_St_isFull_19 := dk_go 1 a_St_isFull_18 rfl
theorem a_St_isFull_20 : dk_at b_St_isFull 20 t_St_isFull_20 := dk_go 1 a_St_isFull_19 rfl
theorem a_St_isFull_21 : dk_at b_St_isFull 21 t_St_isFull_21 := dk_go 1 a_St_isFull_20 rfl
theorem a_St_isFull_22 : dk_at b_St_isFull 22 t_St_isFull_22 := dk_go 1 a_St_isFull_21 rfl
theorem a_St_isFull_25 : dk_at b_St_isFull 25 t_St_isFull_25 := dk_go 3 a_St_isFull_22 rfl
theorem a_St_isFull_26 : dk_at b_St_isFull 26 t_St_isFull_26 := dk_go 1 a_St_isFull_25 rfl
theorem a_St_isFull_29 : dk_at b_St_isFull 29 t_St_isFull_29 := dk_go 3 a_St_isFull_26 rfl
theorem a_St_isFull_30 : dk_at b_St_isFull 30 t_St_isFull_30 := dk_go 1 a_St_isFull_29 rfl
theorem d_St_isFull_0 : decode b_St_isFull 0 = .ok (.aload_n 0, 1) := dk_0 a_St_isFull_0 (dko_42 _)
theorem d_St_isFull_1 : decode b_St_isFull 1 = .ok (.getfield 34, 3) := dk_U2 a_St_isFull_1 (dko_180 _) rfl
theorem d_St_isFull_4 : decode b_St_isFull 4 = .ok (.iload_n 1, 1) := dk_0 a_St_isFull_4 (dko_27 _)
theorem d_St_isFull_5 : decode b_St_isFull 5 = .ok (.iconst 4, 1) := dk_0 a_St_isFull_5 (dko_7 _)
theorem d_St_isFull_6 : decode b_St_isFull 6 = .ok (.imul, 1) := dk_0 a_St_isFull_6 (dko_104 _)
theorem d_St_isFull_7 : decode b_St_isFull 7 = .ok (.iload_n 2, 1) := dk_0 a_St_isFull_7 (dko_28 _)
theorem d_St_isFull_8 : decode b_St_isFull 8 = .ok (.bipush 6, 2) := dk_S1 a_St_isFull_8 (dko_16 _) (by decide +kernel)
theorem d_St_isFull_10 : decode b_St_isFull 10 = .ok (.ishr, 1) := dk_0 a_St_isFull_10 (dko_122 _)
theorem d_St_isFull_11 : decode b_St_isFull 11 = .ok (.iadd, 1) := dk_0 a_St_isFull_11 (dko_96 _)
theorem d_St_isFull_12 : decode b_St_isFull 12 = .ok (.laload, 1) := dk_0 a_St_isFull_12 (dko_47 _)
theorem d_St_isFull_13 : decode b_St_isFull 13 = .ok (.iload_n 2, 1) := dk_0 a_St_isFull_13 (dko_28 _)
theorem d_St_isFull_14 : decode b_St_isFull 14 = .ok (.bipush 63, 2) := dk_S1 a_St_isFull_14 (dko_16 _) (by decide +kernel)
theorem d_St_isFull_16 : decode b_St_isFull 16 = .ok (.iand, 1) := dk_0 a_St_isFull_16 (dko_126 _)
theorem d_St_isFull_17 : decode b_St_isFull 17 = .ok (.lushr, 1) := dk_0 a_St_isFull_17 (dko_125 _)
theorem d_St_isFull_18 : decode b_St_isFull 18 = .ok (.lconst 1, 1) := dk_0 a_St_isFull_18 (dko_10 _)
theorem d_St_isFull_19 : decode b_St_isFull 19 = .ok (.land, 1) := dk_0 a_St_isFull_19 (dko_127 _)
theorem d_St_isFull_20 : decode b_St_isFull 20 = .ok (.lconst 0, 1) := dk_0 a_St_isFull_20 (dko_9 _)
theorem d_St_isFull_21 : decode b_St_isFull 21 = .ok (.lcmp, 1) := dk_0 a_St_isFull_21 (dko_148 _)
theorem d_St_isFull_22 : decode b_St_isFull 22 = .ok (.ifCond .eq 7, 3) := dk_S2 a_St_isFull_22 (dko_153 _) (by decide +kernel)
theorem d_St_isFull_25 : decode b_St_isFull 25 = .ok (.iconst 1, 1) := dk_0 a_St_isFull_25 (dko_4 _)
theorem d_St_isFull_26 : decode b_St_isFull 26 = .ok (.goto 4, 3) := dk_S2 a_St_isFull_26 (dko_167 _) (by decide +kernel)
theorem d_St_isFull_29 : decode b_St_isFull 29 = .ok (.iconst 0, 1) := dk_0 a_St_isFull_29 (dko_3 _)
theorem d_St_isFull_30 : decode b_St_isFull 30 = .ok (.ireturn, 1) := dk_0 a_St_isFull_30 (dko_172 _)
set_option maxHeartbeats 4000000 in
set_option maxRecDepth 100000 in
theorem ok_St_isFull (pc : Nat) : OpS mt mi_St_isFull pc (cs_St_isFull pc) := (os_n (os_n (os_n (os_n (os_l (so_aload_n d_St_isFull_0 rfl)) (os_l (so_get (C := R_St) (T := F_St) (N := 12) (j := 7) in_St rfl (by decide) mw_174 d_St_isFull_1))) (os_n (os_l (so_iload_n d_St_isFull_4 rfl)) (os_n (os_l (so_iconst d_St_isFull_5 (by decide))) (os_l (so_imul d_St_isFull_6))))) (os_n (os_n (os_l (so_iload_n d_St_isFull_7 rfl)) (os_n (os_l (so_bipush d_St_isFull_8 (by decide))) (os_l (so_ishr d_St_isFull_10)))) (os_n (os_l (so_iadd d_St_isFull_11)) (os_n (os_l (so_laload d_St_isFull_12)) (os_l (so_iload_n d_St_isFull_13 rfl)))))) (os_n (os_n (os_n (os_l (so_bipush d_St_isFull_14 (by decide))) (os_n (os_l (so_iand d_St_isFull_16)) (os_l (so_lushr d_St_isFull_17)))) (os_n (os_l (so_lconst d_St_isFull_18 (by decide))) (os_n (os_l (so_land d_St_isFull_19)) (os_l (so_lconst d_St_isFull_20 (by decide)))))) (os_n (os_n (os_l (so_lcmp d_St_isFull_21)) (os_n (os_l (so_ifeq d_St_isFull_22 (by decide))) (os_l (so_iconst d_St_isFull_25 (by decide))))) (os_n (os_l (so_goto d_St_isFull_26 (by decide))) (os_n (os_l (so_iconst d_St_isFull_29 (by decide))) (os_l (so_zreturn rfl d_St_isFull_30)))))))
abbrev t_St_wouldLeave_11 : List UInt8 := 172 :: []
abbrev t_St_wouldLeave_8 : List UInt8 := 182 :: 0 :: 101 :: t_St_wouldLeave_11
abbrev t_St_wouldLeave_5 : List UInt8 := 182 :: 0 :: 97 :: t_St_wouldLeave_8
abbrev t_St_wouldLeave_4 : List UInt8 := 28 :: t_St_wouldLeave_5
abbrev t_St_wouldLeave_3 : List UInt8 := 27 :: t_St_wouldLeave_4
abbrev t_St_wouldLeave_2 : List UInt8 := 42 :: t_St_wouldLeave_3
abbrev t_St_wouldLeave_1 : List UInt8 := 27 :: t_St_wouldLeave_2
abbrev t_St_wouldLeave_0 : List UInt8 := 42 :: t_St_wouldLeave_1
theorem a_St_wouldLeave_0 : dk_at b_St_wouldLeave 0 t_St_wouldLeave_0 := dk_start (by decide +kernel)
theorem a_St_wouldLeave_1 : dk_at b_St_wouldLeave 1 t_St_wouldLeave_1 := dk_go 1 a_St_wouldLeave_0 rfl
theorem a_St_wouldLeave_2 : dk_at b_St_wouldLeave 2 t_St_wouldLeave_2 := dk_go 1 a_St_wouldLeave_1 rfl
theorem a_St_wouldLeave_3 : dk_at b_St_wouldLeave 3 t_St_wouldLeave_3 := dk_go 1 a_St_wouldLeave_2 rfl
theorem a_St_wouldLeave_4 : dk_at b_St_wouldLeave 4 t_St_wouldLeave_4 := dk_go 1 a_St_wouldLeave_3 rfl
theorem a_St_wouldLeave_5 : dk_at b_St_wouldLeave 5 t_St_wouldLeave_5 := dk_go 1 a_St_wouldLeave_4 rfl
theorem a_St_wouldLeave_8 : dk_at b_St_wouldLeave 8 t_St_wouldLeave_8 := dk_go 3 a_St_wouldLeave_5 rfl
theorem a_St_wouldLeave_11 : dk_at b_St_wouldLeave 11 t_St_wouldLeave_11 := dk_go 3 a_St_wouldLeave_8 rfl
theorem d_St_wouldLeave_0 : decode b_St_wouldLeave 0 = .ok (.aload_n 0, 1) := dk_0 a_St_wouldLeave_0 (dko_42 _)
theorem d_St_wouldLeave_1 : decode b_St_wouldLeave 1 = .ok (.iload_n 1, 1) := dk_0 a_St_wouldLeave_1 (dko_27 _)
theorem d_St_wouldLeave_2 : decode b_St_wouldLeave 2 = .ok (.aload_n 0, 1) := dk_0 a_St_wouldLeave_2 (dko_42 _)
theorem d_St_wouldLeave_3 : decode b_St_wouldLeave 3 = .ok (.iload_n 1, 1) := dk_0 a_St_wouldLeave_3 (dko_27 _)
theorem d_St_wouldLeave_4 : decode b_St_wouldLeave 4 = .ok (.iload_n 2, 1) := dk_0 a_St_wouldLeave_4 (dko_28 _)
theorem d_St_wouldLeave_5 : decode b_St_wouldLeave 5 = .ok (.invokevirtual 97, 3) := dk_U2 a_St_wouldLeave_5 (dko_182 _) rfl
theorem d_St_wouldLeave_8 : decode b_St_wouldLeave 8 = .ok (.invokevirtual 101, 3) := dk_U2 a_St_wouldLeave_8 (dko_182 _) rfl
theorem d_St_wouldLeave_11 : decode b_St_wouldLeave 11 = .ok (.ireturn, 1) := dk_0 a_St_wouldLeave_11 (dko_172 _)
set_option maxHeartbeats 4000000 in
set_option maxRecDepth 100000 in
theorem ok_St_wouldLeave (pc : Nat) : OpS mt mi_St_wouldLeave pc (cs_St_wouldLeave pc) := (os_n (os_n (os_n (os_l (so_aload_n d_St_wouldLeave_0 rfl)) (os_l (so_iload_n d_St_wouldLeave_1 rfl))) (os_n (os_l (so_aload_n d_St_wouldLeave_2 rfl)) (os_l (so_iload_n d_St_wouldLeave_3 rfl)))) (os_n (os_n (os_l (so_iload_n d_St_wouldLeave_4 rfl)) (os_l (so_callV (iv := mi_St_leavingCell) rfl rfl rfl mw_1450 mw_1452 sl_86 mw_4 mw_1453 ⟨by decide +kernel, by decide +kernel, by decide +kernel⟩ (by decide) d_St_wouldLeave_5))) (os_n (os_l (so_callV (iv := mi_St_isFull) rfl rfl rfl mw_1454 mw_1456 sl_87 mw_4 mw_1457 ⟨by decide +kernel, by decide +kernel, by decide +kernel⟩ (by decide) d_St_wouldLeave_8)) (os_l (so_zreturn rfl d_St_wouldLeave_11)))))
abbrev t_St_push_159 : List UInt8 := 172 :: []
abbrev t_St_push_157 : List UInt8 := 21 :: 7 :: t_St_push_159
abbrev t_St_push_154 : List UInt8 := 182 :: 0 :: 111 :: t_St_push_157
abbrev t_St_push_153 : List UInt8 := 4 :: t_St_push_154
abbrev t_St_push_152 : List UInt8 := 96 :: t_St_push_153
abbrev t_St_push_151 : List UInt8 := 27 :: t_St_push_152
abbrev t_St_push_148 : List UInt8 := 180 :: 0 :: 60 :: t_St_push_151
abbrev t_St_push_145 : List UInt8 := 180 :: 0 :: 12 :: t_St_push_148
abbrev t_St_push_144 : List UInt8 := 42 :: t_St_push_145
abbrev t_St_push_143 : List UInt8 := 42 :: t_St_push_144
abbrev t_St_push_140 : List UInt8 := 153 :: 0 :: 17 :: t_St_push_143
abbrev t_St_push_138 : List UInt8 := 21 :: 7 :: t_St_push_140
abbrev t_St_push_135 : List UInt8 := 182 :: 0 :: 107 :: t_St_push_138
abbrev t_St_push_134 : List UInt8 := 4 :: t_St_push_135
abbrev t_St_push_132 : List UInt8 := 21 :: 4 :: t_St_push_134
abbrev t_St_push_131 : List UInt8 := 96 :: t_St_push_132
abbrev t_St_push_130 : List UInt8 := 27 :: t_St_push_131
abbrev t_St_push_127 : List UInt8 := 180 :: 0 :: 60 :: t_St_push_130
abbrev t_St_push_124 : List UInt8 := 180 :: 0 :: 12 :: t_St_push_127
abbrev t_St_push_123 : List UInt8 := 42 :: t_St_push_124
abbrev t_St_push_122 : List UInt8 := 42 :: t_St_push_123
abbrev t_St_push_119 : List UInt8 := 153 :: 0 :: 19 :: t_St_push_122
abbrev t_St_push_118 : List UInt8 := 29 :: t_St_push_119
abbrev t_St_push_117 : List UInt8 := 79 :: t_St_push_118
abbrev t_St_push_116 : List UInt8 := 3 :: t_St_push_117
abbrev t_St_push_113 : List UInt8 := 167 :: 0 :: 4 :: t_St_push_116
abbrev t_St_push_112 : List UInt8 := 96 :: t_St_push_113
abbrev t_St_push_111 : List UInt8 := 4 :: t_St_push_112
abbrev t_St_push_109 : List UInt8 := 21 :: 6 :: t_St_push_111
abbrev t_St_push_106 : List UInt8 := 162 :: 0 :: 10 :: t_St_push_109
abbrev t_St_push_104 : List UInt8 := 21 :: 5 :: t_St_push_106
abbrev t_St_push_103 : List UInt8 := 96 :: t_St_push_104
abbrev t_St_push_102 : List UInt8 := 4 :: t_St_push_103
abbrev t_St_push_100 : List UInt8 := 21 :: 6 :: t_St_push_102
abbrev t_St_push_97 : List UInt8 := 167 :: 0 :: 20 :: t_St_push_100
abbrev t_St_push_95 : List UInt8 := 21 :: 6 :: t_St_push_97
abbrev t_St_push_92 : List UInt8 := 153 :: 0 :: 8 :: t_St_push_95
abbrev t_St_push_91 : List UInt8 := 28 :: t_St_push_92
abbrev t_St_push_90 : List UInt8 := 27 :: t_St_push_91
abbrev t_St_push_87 : List UInt8 := 180 :: 0 :: 38 :: t_St_push_90
abbrev t_St_push_86 : List UInt8 := 42 :: t_St_push_87
abbrev t_St_push_85 : List UInt8 := 80 :: t_St_push_86
abbrev t_St_push_84 : List UInt8 := 127 :: t_St_push_85
abbrev t_St_push_83 : List UInt8 := 131 :: t_St_push_84
abbrev t_St_push_80 : List UInt8 := 20 :: 0 :: 105 :: t_St_push_83
abbrev t_St_push_78 : List UInt8 := 22 :: 8 :: t_St_push_80
abbrev t_St_push_77 : List UInt8 := 47 :: t_St_push_78
abbrev t_St_push_75 : List UInt8 := 21 :: 10 :: t_St_push_77
abbrev t_St_push_72 : List UInt8 := 180 :: 0 :: 34 :: t_St_push_75
abbrev t_St_push_71 : List UInt8 := 42 :: t_St_push_72
abbrev t_St_push_68 : List UInt8 := 167 :: 0 :: 17 :: t_St_push_71
abbrev t_St_push_67 : List UInt8 := 129 :: t_St_push_68
abbrev t_St_push_65 : List UInt8 := 22 :: 8 :: t_St_push_67
abbrev t_St_push_64 : List UInt8 := 47 :: t_St_push_65
abbrev t_St_push_62 : List UInt8 := 21 :: 10 :: t_St_push_64
abbrev t_St_push_59 : List UInt8 := 180 :: 0 :: 34 :: t_St_push_62
abbrev t_St_push_58 : List UInt8 := 42 :: t_St_push_59
abbrev t_St_push_55 : List UInt8 := 153 :: 0 :: 16 :: t_St_push_58
abbrev t_St_push_54 : List UInt8 := 29 :: t_St_push_55
abbrev t_St_push_52 : List UInt8 := 21 :: 10 :: t_St_push_54
abbrev t_St_push_49 : List UInt8 := 180 :: 0 :: 34 :: t_St_push_52
abbrev t_St_push_48 : List UInt8 := 42 :: t_St_push_49
abbrev t_St_push_46 : List UInt8 := 54 :: 10 :: t_St_push_48
abbrev t_St_push_45 : List UInt8 := 96 :: t_St_push_46
abbrev t_St_push_44 : List UInt8 := 122 :: t_St_push_45
abbrev t_St_push_42 : List UInt8 := 16 :: 6 :: t_St_push_44
abbrev t_St_push_40 : List UInt8 := 21 :: 6 :: t_St_push_42
abbrev t_St_push_39 : List UInt8 := 104 :: t_St_push_40
abbrev t_St_push_38 : List UInt8 := 7 :: t_St_push_39
abbrev t_St_push_37 : List UInt8 := 27 :: t_St_push_38
abbrev t_St_push_35 : List UInt8 := 55 :: 8 :: t_St_push_37
abbrev t_St_push_34 : List UInt8 := 121 :: t_St_push_35
abbrev t_St_push_33 : List UInt8 := 126 :: t_St_push_34
abbrev t_St_push_31 : List UInt8 := 16 :: 63 :: t_St_push_33
abbrev t_St_push_29 : List UInt8 := 21 :: 6 :: t_St_push_31
abbrev t_St_push_28 : List UInt8 := 10 :: t_St_push_29
abbrev t_St_push_26 : List UInt8 := 54 :: 7 :: t_St_push_28
abbrev t_St_push_23 : List UInt8 := 182 :: 0 :: 101 :: t_St_push_26
abbrev t_St_push_21 : List UInt8 := 21 :: 6 :: t_St_push_23
abbrev t_St_push_20 : List UInt8 := 27 :: t_St_push_21
abbrev t_St_push_19 : List UInt8 := 42 :: t_St_push_20
abbrev t_St_push_17 : List UInt8 := 54 :: 6 :: t_St_push_19
abbrev t_St_push_14 : List UInt8 := 182 :: 0 :: 97 :: t_St_push_17
abbrev t_St_push_13 : List UInt8 := 28 :: t_St_push_14
abbrev t_St_push_12 : List UInt8 := 27 :: t_St_push_13
abbrev t_St_push_11 : List UInt8 := 42 :: t_St_push_12
abbrev t_St_push_9 : List UInt8 := 54 :: 5 :: t_St_push_11
abbrev t_St_push_8 : List UInt8 := 46 :: t_St_push_9
abbrev t_St_push_7 : List UInt8 := 27 :: t_St_push_8
abbrev t_St_push_4 : List UInt8 := 180 :: 0 :: 94 :: t_St_push_7
abbrev t_St_push_1 : List UInt8 := 180 :: 0 :: 12 :: t_St_push_4
abbrev t_St_push_0 : List UInt8 := 42 :: t_St_push_1
theorem a_St_push_0 : dk_at b_St_push 0 t_St_push_0 := dk_start (by decide +kernel)
theorem a_St_push_1 : dk_at b_St_push 1 t_St_push_1 := dk_go 1 a_St_push_0 rfl
theorem a_St_push_4 : dk_at b_St_push 4 t_St_push_4 := dk_go 3 a_St_push_1 rfl
theorem a_St_push_7 : dk_at b_St_push 7 t_St_push_7 := dk_go 3 a_St_push_4 rfl
theorem a_St_push_8 : dk_at b_St_push 8 t_St_push_8 := dk_go 1 a_St_push_7 rfl
theorem a_St_push_9 : dk_at b_St_push 9 t_St_push_9 := dk_go 1 a_St_push_8 rfl
theorem a_St_push_11 : dk_at b_St_push 11 t_St_push_11 := dk_go 2 a_St_push_9 rfl
theorem a_St_push_12 : dk_at b_St_push 12 t_St_push_12 := dk_go 1 a_St_push_11 rfl
theorem a_St_push_13 : dk_at b_St_push 13 t_St_push_13 := dk_go 1 a_St_push_12 rfl
theorem a_St_push_14 : dk_at b_St_push 14 t_St_push_14 := dk_go 1 a_St_push_13 rfl
theorem a_St_push_17 : dk_at b_St_push 17 t_St_push_17 := dk_go 3 a_St_push_14 rfl
theorem a_St_push_19 : dk_at b_St_push 19 t_St_push_19 := dk_go 2 a_St_push_17 rfl
theorem a_St_push_20 : dk_at b_St_push 20 t_St_push_20 := dk_go 1 a_St_push_19 rfl
theorem a_St_push_21 : dk_at b_St_push 21 t_St_push_21 := dk_go 1 a_St_push_20 rfl
theorem a_St_push_23 : dk_at b_St_push 23 t_St_push_23 := dk_go 2 a_St_push_21 rfl
theorem a_St_push_26 : dk_at b_St_push 26 t_St_push_26 := dk_go 3 a_St_push_23 rfl
theorem a_St_push_28 : dk_at b_St_push 28 t_St_push_28 := dk_go 2 a_St_push_26 rfl
theorem a_St_push_29 : dk_at b_St_push 29 t_St_push_29 := dk_go 1 a_St_push_28 rfl
theorem a_St_push_31 : dk_at b_St_push 31 t_St_push_31 := dk_go 2 a_St_push_29 rfl
theorem a_St_push_33 : dk_at b_St_push 33 t_St_push_33 := dk_go 2 a_St_push_31 rfl
theorem a_St_push_34 : dk_at b_St_push 34 t_St_push_34 := dk_go 1 a_St_push_33 rfl
theorem a_St_push_35 : dk_at b_St_push 35 t_St_push_35 := dk_go 1 a_St_push_34 rfl
theorem a_St_push_37 : dk_at b_St_push 37 t_St_push_37 := dk_go 2 a_St_push_35 rfl
theorem a_St_push_38 : dk_at b_St_push 38 t_St_push_38 := dk_go 1 a_St_push_37 rfl
theorem a_St_push_39 : dk_at b_St_push 39 t_St_push_39 := dk_go 1 a_St_push_38 rfl
theorem a_St_push_40 : dk_at b_St_push 40 t_St_push_40 := dk_go 1 a_St_push_39 rfl
theorem a_St_push_42 : dk_at b_St_push 42 t_St_push_42 := dk_go 2 a_St_push_40 rfl
theorem a_St_push_44 : dk_at b_St_push 44 t_St_push_44 := dk_go 2 a_St_push_42 rfl
theorem a_St_push_45 : dk_at b_St_push 45 t_St_push_45 := dk_go 1 a_St_push_44 rfl
theorem a_St_push_46 : dk_at b_St_push 46 t_St_push_46 := dk_go 1 a_St_push_45 rfl
theorem a_St_push_48 : dk_at b_St_push 48 t_St_push_48 := dk_go 2 a_St_push_46 rfl
theorem a_St_push_49 : dk_at b_St_push 49 t_St_push_49 := dk_go 1 a_St_push_48 rfl
theorem a_St_push_52 : dk_at b_St_push 52 t_St_push_52 := dk_go 3 a_St_push_49 rfl
theorem a_St_push_54 : dk_at b_St_push 54 t_St_push_54 := dk_go 2 a_St_push_52 rfl
theorem a_St_push_55 : dk_at b_St_push 55 t_St_push_55 := dk_go 1 a_St_push_54 rfl
theorem a_St_push_58 : dk_at b_St_push 58 t_St_push_58 := dk_go 3 a_St_push_55 rfl
theorem a_St_push_59 : dk_at b_St_push 59 t_St_push_59 := dk_go 1 a_St_push_58 rfl
theorem a_St_push_62 : dk_at b_St_push 62 t_St_push_62 := dk_go 3 a_St_push_59 rfl
theorem a_St_push_64 : dk_at b_St_push 64 t_St_push_64 := dk_go 2 a_St_push_62 rfl
theorem a_St_push_65 : dk_at b_St_push 65 t_St_push_65 := dk_go 1 a_St_push_64 rfl
theorem a_St_push_67 : dk_at b_St_push 67 t_St_push_67 := dk_go 2 a_St_push_65 rfl
theorem a_St_push_68 : dk_at b_St_push 68 t_St_push_68 := dk_go 1 a_St_push_67 rfl
theorem a_St_push_71 : dk_at b_St_push 71 t_St_push_71 := dk_go 3 a_St_push_68 rfl
theorem a_St_push_72 : dk_at b_St_push 72 t_St_push_72 := dk_go 1 a_St_push_71 rfl
theorem a_St_push_75 : dk_at b_St_push 75 t_St_push_75 := dk_go 3 a_St_push_72 rfl
theorem a_St_push_77 : dk_at b_St_push 77 t_St_push_77 := dk_go 2 a_St_push_75 rfl
theorem a_St_push_78 : dk_at b_St_push 78 t_St_push_78 := dk_go 1 a_St_push_77 rfl
theorem a_St_push_80 : dk_at b_St_push 80 t_St_push_80 := dk_go 2 a_St_push_78 rfl
theorem a_St_push_83 : dk_at b_St_push 83 t_St_push_83 := dk_go 3 a_St_push_80 rfl
theorem a_St_push_84 : dk_at b_St_push 84 t_St_push_84 := dk_go 1 a_St_push_83 rfl
theorem a_St_push_85 : dk_at b_St_push 85 t_St_push_85 := dk_go 1 a_St_push_84 rfl
theorem a_St_push_86 : dk_at b_St_push 86 t_St_push_86 := dk_go 1 a_St_push_85 rfl
theorem a_St_push_87 : dk_at b_St_push 87 t_St_push_87 := dk_go 1 a_St_push_86 rfl
theorem a_St_push_90 : dk_at b_St_push 90 t_St_push_90 := dk_go 3 a_St_push_87 rfl
theorem a_St_push_91 : dk_at b_St_push 91 t_St_push_91 := dk_go 1 a_St_push_90 rfl
theorem a_St_push_92 : dk_at b_St_push 92 t_St_push_92 := dk_go 1 a_St_push_91 rfl
theorem a_St_push_95 : dk_at b_St_push 95 t_St_push_95 := dk_go 3 a_St_push_92 rfl
theorem a_St_push_97 : dk_at b_St_push 97 t_St_push_97 := dk_go 2 a_St_push_95 rfl
theorem a_St_push_100 : dk_at b_St_push 100 t_St_push_100 := dk_go 3 a_St_push_97 rfl
theorem a_St_push_102 : dk_at b_St_push 102 t_St_push_102 := dk_go 2 a_St_push_100 rfl
theorem a_St_push_103 : dk_at b_St_push 103 t_St_push_103 := dk_go 1 a_St_push_102 rfl
theorem a_St_push_104 : dk_at b_St_push 104 t_St_push_104 := dk_go 1 a_St_push_103 rfl
theorem a_St_push_106 : dk_at b_St_push 106 t_St_push_106 := dk_go 2 a_St_push_104 rfl
theorem a_St_push_109 : dk_at b_St_push 109 t_St_push_109 := dk_go 3 a_St_push_106 rfl
theorem a_St_push_111 : dk_at b_St_push 111 t_St_push_111 := dk_go 2 a_St_push_109 rfl
theorem a_St_push_112 : dk_at b_St_push 112 t_St_push_112 := dk_go 1 a_St_push_111 rfl
theorem a_St_push_113 : dk_at b_St_push 113 t_St_push_113 := dk_go 1 a_St_push_112 rfl
theorem a_St_push_116 : dk_at b_St_push 116 t_St_push_116 := dk_go 3 a_St_push_113 rfl
theorem a_St_push_117 : dk_at b_St_push 117 t_St_push_117 := dk_go 1 a_St_push_116 rfl
theorem a_St_push_118 : dk_at b_St_push 118 t_St_push_118 := dk_go 1 a_St_push_117 rfl
theorem a_St_push_119 : dk_at b_St_push 119 t_St_push_119 := dk_go 1 a_St_push_118 rfl
theorem a_St_push_122 : dk_at b_St_push 122 t_St_push_122 := dk_go 3 a_St_push_119 rfl
theorem a_St_push_123 : dk_at b_St_push 123 t_St_push_123 := dk_go 1 a_St_push_122 rfl
theorem a_St_push_124 : dk_at b_St_push 124 t_St_push_124 := dk_go 1 a_St_push_123 rfl
theorem a_St_push_127 : dk_at b_St_push 127 t_St_push_127 := dk_go 3 a_St_push_124 rfl
theorem a_St_push_130 : dk_at b_St_push 130 t_St_push_130 := dk_go 3 a_St_push_127 rfl
theorem a_St_push_131 : dk_at b_St_push 131 t_St_push_131 := dk_go 1 a_St_push_130 rfl
theorem a_St_push_132 : dk_at b_St_push 132 t_St_push_132 := dk_go 1 a_St_push_131 rfl
theorem a_St_push_134 : dk_at b_St_push 134 t_St_push_134 := dk_go 2 a_St_push_132 rfl
theorem a_St_push_135 : dk_at b_St_push 135 t_St_push_135 := dk_go 1 a_St_push_134 rfl
theorem a_St_push_138 : dk_at b_St_push 138 t_St_push_138 := dk_go 3 a_St_push_135 rfl
theorem a_St_push_140 : dk_at b_St_push 140 t_St_push_140 := dk_go 2 a_St_push_138 rfl
theorem a_St_push_143 : dk_at b_St_push 143 t_St_push_143 := dk_go 3 a_St_push_140 rfl
theorem a_St_push_144 : dk_at b_St_push 144 t_St_push_144 := dk_go 1 a_St_push_143 rfl
theorem a_St_push_145 : dk_at b_St_push 145 t_St_push_145 := dk_go 1 a_St_push_144 rfl
theorem a_St_push_148 : dk_at b_St_push 148 t_St_push_148 := dk_go 3 a_St_push_145 rfl
theorem a_St_push_151 : dk_at b_St_push 151 t_St_push_151 := dk_go 3 a_St_push_148 rfl
theorem a_St_push_152 : dk_at b_St_push 152 t_St_push_152 := dk_go 1 a_St_push_151 rfl
theorem a_St_push_153 : dk_at b_St_push 153 t_St_push_153 := dk_go 1 a_St_push_152 rfl
theorem a_St_push_154 : dk_at b_St_push 154 t_St_push_154 := dk_go 1 a_St_push_153 rfl
theorem a_St_push_157 : dk_at b_St_push 157 t_St_push_157 := dk_go 3 a_St_push_154 rfl
theorem a_St_push_159 : dk_at b_St_push 159 t_St_push_159 := dk_go 2 a_St_push_157 rfl
theorem d_St_push_0 : decode b_St_push 0 = .ok (.aload_n 0, 1) := dk_0 a_St_push_0 (dko_42 _)
theorem d_St_push_1 : decode b_St_push 1 = .ok (.getfield 12, 3) := dk_U2 a_St_push_1 (dko_180 _) rfl
theorem d_St_push_4 : decode b_St_push 4 = .ok (.getfield 94, 3) := dk_U2 a_St_push_4 (dko_180 _) rfl
theorem d_St_push_7 : decode b_St_push 7 = .ok (.iload_n 1, 1) := dk_0 a_St_push_7 (dko_27 _)
theorem d_St_push_8 : decode b_St_push 8 = .ok (.iaload, 1) := dk_0 a_St_push_8 (dko_46 _)
theorem d_St_push_9 : decode b_St_push 9 = .ok (.istore 5, 2) := dk_U1 a_St_push_9 (dko_54 _) rfl
theorem d_St_push_11 : decode b_St_push 11 = .ok (.aload_n 0, 1) := dk_0 a_St_push_11 (dko_42 _)
theorem d_St_push_12 : decode b_St_push 12 = .ok (.iload_n 1, 1) := dk_0 a_St_push_12 (dko_27 _)
theorem d_St_push_13 : decode b_St_push 13 = .ok (.iload_n 2, 1) := dk_0 a_St_push_13 (dko_28 _)
theorem d_St_push_14 : decode b_St_push 14 = .ok (.invokevirtual 97, 3) := dk_U2 a_St_push_14 (dko_182 _) rfl
theorem d_St_push_17 : decode b_St_push 17 = .ok (.istore 6, 2) := dk_U1 a_St_push_17 (dko_54 _) rfl
theorem d_St_push_19 : decode b_St_push 19 = .ok (.aload_n 0, 1) := dk_0 a_St_push_19 (dko_42 _)
theorem d_St_push_20 : decode b_St_push 20 = .ok (.iload_n 1, 1) := dk_0 a_St_push_20 (dko_27 _)
theorem d_St_push_21 : decode b_St_push 21 = .ok (.iload 6, 2) := dk_U1 a_St_push_21 (dko_21 _) rfl
theorem d_St_push_23 : decode b_St_push 23 = .ok (.invokevirtual 101, 3) := dk_U2 a_St_push_23 (dko_182 _) rfl
theorem d_St_push_26 : decode b_St_push 26 = .ok (.istore 7, 2) := dk_U1 a_St_push_26 (dko_54 _) rfl
theorem d_St_push_28 : decode b_St_push 28 = .ok (.lconst 1, 1) := dk_0 a_St_push_28 (dko_10 _)
theorem d_St_push_29 : decode b_St_push 29 = .ok (.iload 6, 2) := dk_U1 a_St_push_29 (dko_21 _) rfl
theorem d_St_push_31 : decode b_St_push 31 = .ok (.bipush 63, 2) := dk_S1 a_St_push_31 (dko_16 _) (by decide +kernel)
theorem d_St_push_33 : decode b_St_push 33 = .ok (.iand, 1) := dk_0 a_St_push_33 (dko_126 _)
theorem d_St_push_34 : decode b_St_push 34 = .ok (.lshl, 1) := dk_0 a_St_push_34 (dko_121 _)
theorem d_St_push_35 : decode b_St_push 35 = .ok (.lstore 8, 2) := dk_U1 a_St_push_35 (dko_55 _) rfl
theorem d_St_push_37 : decode b_St_push 37 = .ok (.iload_n 1, 1) := dk_0 a_St_push_37 (dko_27 _)
theorem d_St_push_38 : decode b_St_push 38 = .ok (.iconst 4, 1) := dk_0 a_St_push_38 (dko_7 _)
theorem d_St_push_39 : decode b_St_push 39 = .ok (.imul, 1) := dk_0 a_St_push_39 (dko_104 _)
theorem d_St_push_40 : decode b_St_push 40 = .ok (.iload 6, 2) := dk_U1 a_St_push_40 (dko_21 _) rfl
theorem d_St_push_42 : decode b_St_push 42 = .ok (.bipush 6, 2) := dk_S1 a_St_push_42 (dko_16 _) (by decide +kernel)
theorem d_St_push_44 : decode b_St_push 44 = .ok (.ishr, 1) := dk_0 a_St_push_44 (dko_122 _)
theorem d_St_push_45 : decode b_St_push 45 = .ok (.iadd, 1) := dk_0 a_St_push_45 (dko_96 _)
theorem d_St_push_46 : decode b_St_push 46 = .ok (.istore 10, 2) := dk_U1 a_St_push_46 (dko_54 _) rfl
theorem d_St_push_48 : decode b_St_push 48 = .ok (.aload_n 0, 1) := dk_0 a_St_push_48 (dko_42 _)
theorem d_St_push_49 : decode b_St_push 49 = .ok (.getfield 34, 3) := dk_U2 a_St_push_49 (dko_180 _) rfl
theorem d_St_push_52 : decode b_St_push 52 = .ok (.iload 10, 2) := dk_U1 a_St_push_52 (dko_21 _) rfl
theorem d_St_push_54 : decode b_St_push 54 = .ok (.iload_n 3, 1) := dk_0 a_St_push_54 (dko_29 _)
theorem d_St_push_55 : decode b_St_push 55 = .ok (.ifCond .eq 16, 3) := dk_S2 a_St_push_55 (dko_153 _) (by decide +kernel)
theorem d_St_push_58 : decode b_St_push 58 = .ok (.aload_n 0, 1) := dk_0 a_St_push_58 (dko_42 _)
theorem d_St_push_59 : decode b_St_push 59 = .ok (.getfield 34, 3) := dk_U2 a_St_push_59 (dko_180 _) rfl
theorem d_St_push_62 : decode b_St_push 62 = .ok (.iload 10, 2) := dk_U1 a_St_push_62 (dko_21 _) rfl
theorem d_St_push_64 : decode b_St_push 64 = .ok (.laload, 1) := dk_0 a_St_push_64 (dko_47 _)
theorem d_St_push_65 : decode b_St_push 65 = .ok (.lload 8, 2) := dk_U1 a_St_push_65 (dko_22 _) rfl
theorem d_St_push_67 : decode b_St_push 67 = .ok (.lor, 1) := dk_0 a_St_push_67 (dko_129 _)
theorem d_St_push_68 : decode b_St_push 68 = .ok (.goto 17, 3) := dk_S2 a_St_push_68 (dko_167 _) (by decide +kernel)
theorem d_St_push_71 : decode b_St_push 71 = .ok (.aload_n 0, 1) := dk_0 a_St_push_71 (dko_42 _)
theorem d_St_push_72 : decode b_St_push 72 = .ok (.getfield 34, 3) := dk_U2 a_St_push_72 (dko_180 _) rfl
theorem d_St_push_75 : decode b_St_push 75 = .ok (.iload 10, 2) := dk_U1 a_St_push_75 (dko_21 _) rfl
theorem d_St_push_77 : decode b_St_push 77 = .ok (.laload, 1) := dk_0 a_St_push_77 (dko_47 _)
theorem d_St_push_78 : decode b_St_push 78 = .ok (.lload 8, 2) := dk_U1 a_St_push_78 (dko_22 _) rfl
theorem d_St_push_80 : decode b_St_push 80 = .ok (.ldc2_w 105, 3) := dk_U2 a_St_push_80 (dko_20 _) rfl
theorem d_St_push_83 : decode b_St_push 83 = .ok (.lxor, 1) := dk_0 a_St_push_83 (dko_131 _)
theorem d_St_push_84 : decode b_St_push 84 = .ok (.land, 1) := dk_0 a_St_push_84 (dko_127 _)
theorem d_St_push_85 : decode b_St_push 85 = .ok (.lastore, 1) := dk_0 a_St_push_85 (dko_80 _)
theorem d_St_push_86 : decode b_St_push 86 = .ok (.aload_n 0, 1) := dk_0 a_St_push_86 (dko_42 _)
theorem d_St_push_87 : decode b_St_push 87 = .ok (.getfield 38, 3) := dk_U2 a_St_push_87 (dko_180 _) rfl
theorem d_St_push_90 : decode b_St_push 90 = .ok (.iload_n 1, 1) := dk_0 a_St_push_90 (dko_27 _)
theorem d_St_push_91 : decode b_St_push 91 = .ok (.iload_n 2, 1) := dk_0 a_St_push_91 (dko_28 _)
theorem d_St_push_92 : decode b_St_push 92 = .ok (.ifCond .eq 8, 3) := dk_S2 a_St_push_92 (dko_153 _) (by decide +kernel)
theorem d_St_push_95 : decode b_St_push 95 = .ok (.iload 6, 2) := dk_U1 a_St_push_95 (dko_21 _) rfl
theorem d_St_push_97 : decode b_St_push 97 = .ok (.goto 20, 3) := dk_S2 a_St_push_97 (dko_167 _) (by decide +kernel)
theorem d_St_push_100 : decode b_St_push 100 = .ok (.iload 6, 2) := dk_U1 a_St_push_100 (dko_21 _) rfl
theorem d_St_push_102 : decode b_St_push 102 = .ok (.iconst 1, 1) := dk_0 a_St_push_102 (dko_4 _)
theorem d_St_push_103 : decode b_St_push 103 = .ok (.iadd, 1) := dk_0 a_St_push_103 (dko_96 _)
theorem d_St_push_104 : decode b_St_push 104 = .ok (.iload 5, 2) := dk_U1 a_St_push_104 (dko_21 _) rfl
theorem d_St_push_106 : decode b_St_push 106 = .ok (.if_icmp .ge 10, 3) := dk_S2 a_St_push_106 (dko_162 _) (by decide +kernel)
theorem d_St_push_109 : decode b_St_push 109 = .ok (.iload 6, 2) := dk_U1 a_St_push_109 (dko_21 _) rfl
theorem d_St_push_111 : decode b_St_push 111 = .ok (.iconst 1, 1) := dk_0 a_St_push_111 (dko_4 _)
theorem d_St_push_112 : decode b_St_push 112 = .ok (.iadd, 1) := dk_0 a_St_push_112 (dko_96 _)
theorem d_St_push_113 : decode b_St_push 113 = .ok (.goto 4, 3) := dk_S2 a_St_push_113 (dko_167 _) (by decide +kernel)
theorem d_St_push_116 : decode b_St_push 116 = .ok (.iconst 0, 1) := dk_0 a_St_push_116 (dko_3 _)
theorem d_St_push_117 : decode b_St_push 117 = .ok (.iastore, 1) := dk_0 a_St_push_117 (dko_79 _)
theorem d_St_push_118 : decode b_St_push 118 = .ok (.iload_n 3, 1) := dk_0 a_St_push_118 (dko_29 _)
theorem d_St_push_119 : decode b_St_push 119 = .ok (.ifCond .eq 19, 3) := dk_S2 a_St_push_119 (dko_153 _) (by decide +kernel)
theorem d_St_push_122 : decode b_St_push 122 = .ok (.aload_n 0, 1) := dk_0 a_St_push_122 (dko_42 _)
theorem d_St_push_123 : decode b_St_push 123 = .ok (.aload_n 0, 1) := dk_0 a_St_push_123 (dko_42 _)
theorem d_St_push_124 : decode b_St_push 124 = .ok (.getfield 12, 3) := dk_U2 a_St_push_124 (dko_180 _) rfl
theorem d_St_push_127 : decode b_St_push 127 = .ok (.getfield 60, 3) := dk_U2 a_St_push_127 (dko_180 _) rfl
theorem d_St_push_130 : decode b_St_push 130 = .ok (.iload_n 1, 1) := dk_0 a_St_push_130 (dko_27 _)
theorem d_St_push_131 : decode b_St_push 131 = .ok (.iadd, 1) := dk_0 a_St_push_131 (dko_96 _)
theorem d_St_push_132 : decode b_St_push 132 = .ok (.iload 4, 2) := dk_U1 a_St_push_132 (dko_21 _) rfl
theorem d_St_push_134 : decode b_St_push 134 = .ok (.iconst 1, 1) := dk_0 a_St_push_134 (dko_4 _)
theorem d_St_push_135 : decode b_St_push 135 = .ok (.invokevirtual 107, 3) := dk_U2 a_St_push_135 (dko_182 _) rfl
theorem d_St_push_138 : decode b_St_push 138 = .ok (.iload 7, 2) := dk_U1 a_St_push_138 (dko_21 _) rfl
theorem d_St_push_140 : decode b_St_push 140 = .ok (.ifCond .eq 17, 3) := dk_S2 a_St_push_140 (dko_153 _) (by decide +kernel)
theorem d_St_push_143 : decode b_St_push 143 = .ok (.aload_n 0, 1) := dk_0 a_St_push_143 (dko_42 _)
theorem d_St_push_144 : decode b_St_push 144 = .ok (.aload_n 0, 1) := dk_0 a_St_push_144 (dko_42 _)
theorem d_St_push_145 : decode b_St_push 145 = .ok (.getfield 12, 3) := dk_U2 a_St_push_145 (dko_180 _) rfl
theorem d_St_push_148 : decode b_St_push 148 = .ok (.getfield 60, 3) := dk_U2 a_St_push_148 (dko_180 _) rfl
theorem d_St_push_151 : decode b_St_push 151 = .ok (.iload_n 1, 1) := dk_0 a_St_push_151 (dko_27 _)
theorem d_St_push_152 : decode b_St_push 152 = .ok (.iadd, 1) := dk_0 a_St_push_152 (dko_96 _)
theorem d_St_push_153 : decode b_St_push 153 = .ok (.iconst 1, 1) := dk_0 a_St_push_153 (dko_4 _)
theorem d_St_push_154 : decode b_St_push 154 = .ok (.invokevirtual 111, 3) := dk_U2 a_St_push_154 (dko_182 _) rfl
theorem d_St_push_157 : decode b_St_push 157 = .ok (.iload 7, 2) := dk_U1 a_St_push_157 (dko_21 _) rfl
theorem d_St_push_159 : decode b_St_push 159 = .ok (.ireturn, 1) := dk_0 a_St_push_159 (dko_172 _)
set_option maxHeartbeats 4000000 in
set_option maxRecDepth 100000 in
theorem ok_St_push (pc : Nat) : OpS mt mi_St_push pc (cs_St_push pc) := (os_n (os_n (os_n (os_n (os_n (os_n (os_l (so_aload_n d_St_push_0 rfl)) (os_l (so_get (C := R_St) (T := F_St) (N := 12) (j := 0) in_St rfl (by decide) mw_149 d_St_push_1))) (os_n (os_l (so_get (C := R_Pl) (T := F_Pl) (N := 12) (j := 5) in_Pl rfl (by decide) mw_107 d_St_push_4)) (os_n (os_l (so_iload_n d_St_push_7 rfl)) (os_l (so_iaload d_St_push_8))))) (os_n (os_n (os_l (so_istore d_St_push_9 (by decide))) (os_n (os_l (so_aload_n d_St_push_11 rfl)) (os_l (so_iload_n d_St_push_12 rfl)))) (os_n (os_l (so_iload_n d_St_push_13 rfl)) (os_n (os_l (so_callV (iv := mi_St_leavingCell) rfl rfl rfl mw_1450 mw_1452 sl_86 mw_4 mw_1453 ⟨by decide +kernel, by decide +kernel, by decide +kernel⟩ (by decide) d_St_push_14)) (os_l (so_istore d_St_push_17 (by decide))))))) (os_n (os_n (os_n (os_l (so_aload_n d_St_push_19 rfl)) (os_n (os_l (so_iload_n d_St_push_20 rfl)) (os_l (so_iload d_St_push_21)))) (os_n (os_l (so_callV (iv := mi_St_isFull) rfl rfl rfl mw_1454 mw_1456 sl_87 mw_4 mw_1457 ⟨by decide +kernel, by decide +kernel, by decide +kernel⟩ (by decide) d_St_push_23)) (os_n (os_l (so_istore d_St_push_26 (by decide))) (os_l (so_lconst d_St_push_28 (by decide)))))) (os_n (os_n (os_l (so_iload d_St_push_29)) (os_n (os_l (so_bipush d_St_push_31 (by decide))) (os_l (so_iand d_St_push_33)))) (os_n (os_l (so_lshl d_St_push_34)) (os_n (os_l (so_lstore d_St_push_35 (by decide))) (os_l (so_iload_n d_St_push_37 rfl))))))) (os_n (os_n (os_n (os_n (os_l (so_iconst d_St_push_38 (by decide))) (os_l (so_imul d_St_push_39))) (os_n (os_l (so_iload d_St_push_40)) (os_n (os_l (so_bipush d_St_push_42 (by decide))) (os_l (so_ishr d_St_push_44))))) (os_n (os_n (os_l (so_iadd d_St_push_45)) (os_n (os_l (so_istore d_St_push_46 (by decide))) (os_l (so_aload_n d_St_push_48 rfl)))) (os_n (os_l (so_get (C := R_St) (T := F_St) (N := 12) (j := 7) in_St rfl (by decide) mw_174 d_St_push_49)) (os_n (os_l (so_iload d_St_push_52)) (os_l (so_iload_n d_St_push_54 rfl)))))) (os_n (os_n (os_n (os_l (so_ifeq d_St_push_55 (by decide))) (os_n (os_l (so_aload_n d_St_push_58 rfl)) (os_l (so_get (C := R_St) (T := F_St) (N := 12) (j := 7) in_St rfl (by decide) mw_174 d_St_push_59)))) (os_n (os_l (so_iload d_St_push_62)) (os_n (os_l (so_laload d_St_push_64)) (os_l (so_lload d_St_push_65))))) (os_n (os_n (os_l (so_lor d_St_push_67)) (os_n (os_l (so_goto d_St_push_68 (by decide))) (os_l (so_aload_n d_St_push_71 rfl)))) (os_n (os_l (so_get (C := R_St) (T := F_St) (N := 12) (j := 7) in_St rfl (by decide) mw_174 d_St_push_72)) (os_n (os_l (so_iload d_St_push_75)) (os_l (so_laload d_St_push_77)))))))) (os_n (os_n (os_n (os_n (os_n (os_l (so_lload d_St_push_78)) (os_l (so_ldc2 mw_1464 d_St_push_80))) (os_n (os_l (so_lxor d_St_push_83)) (os_n (os_l (so_land d_St_push_84)) (os_l (so_lastore d_St_push_85))))) (os_n (os_n (os_l (so_aload_n d_St_push_86 rfl)) (os_n (os_l (so_get (C := R_St) (T := F_St) (N := 12) (j := 8) in_St rfl (by decide) mw_175 d_St_push_87)) (os_l (so_iload_n d_St_push_90 rfl)))) (os_n (os_l (so_iload_n d_St_push_91 rfl)) (os_n (os_l (so_ifeq d_St_push_92 (by decide))) (os_l (so_iload d_St_push_95)))))) (os_n (os_n (os_n (os_l (so_goto d_St_push_97 (by decide))) (os_n (os_l (so_iload d_St_push_100)) (os_l (so_iconst d_St_push_102 (by decide))))) (os_n (os_l (so_iadd d_St_push_103)) (os_n (os_l (so_iload d_St_push_104)) (os_l (so_icge d_St_push_106 (by decide)))))) (os_n (os_n (os_l (so_iload d_St_push_109)) (os_n (os_l (so_iconst d_St_push_111 (by decide))) (os_l (so_iadd d_St_push_112)))) (os_n (os_l (so_goto d_St_push_113 (by decide))) (os_n (os_l (so_iconst d_St_push_116 (by decide))) (os_l (so_iastore d_St_push_117))))))) (os_n (os_n (os_n (os_n (os_l (so_iload_n d_St_push_118 rfl)) (os_l (so_ifeq d_St_push_119 (by decide)))) (os_n (os_l (so_aload_n d_St_push_122 rfl)) (os_n (os_l (so_aload_n d_St_push_123 rfl)) (os_l (so_get (C := R_St) (T := F_St) (N := 12) (j := 0) in_St rfl (by decide) mw_149 d_St_push_124))))) (os_n (os_n (os_l (so_get (C := R_Pl) (T := F_Pl) (N := 12) (j := 0) in_Pl rfl (by decide) mw_88 d_St_push_127)) (os_n (os_l (so_iload_n d_St_push_130 rfl)) (os_l (so_iadd d_St_push_131)))) (os_n (os_l (so_iload d_St_push_132)) (os_n (os_l (so_iconst d_St_push_134 (by decide))) (os_l (so_callV (iv := mi_St_arrive) rfl rfl rfl mw_1465 mw_1130 mw_1131 mw_4 mw_1132 ⟨by decide +kernel, by decide +kernel, by decide +kernel⟩ (by decide) d_St_push_135)))))) (os_n (os_n (os_n (os_l (so_iload d_St_push_138)) (os_n (os_l (so_ifeq d_St_push_140 (by decide))) (os_l (so_aload_n d_St_push_143 rfl)))) (os_n (os_l (so_aload_n d_St_push_144 rfl)) (os_n (os_l (so_get (C := R_St) (T := F_St) (N := 12) (j := 0) in_St rfl (by decide) mw_149 d_St_push_145)) (os_l (so_get (C := R_Pl) (T := F_Pl) (N := 12) (j := 0) in_Pl rfl (by decide) mw_88 d_St_push_148))))) (os_n (os_n (os_l (so_iload_n d_St_push_151 rfl)) (os_n (os_l (so_iadd d_St_push_152)) (os_l (so_iconst d_St_push_153 (by decide))))) (os_n (os_l (so_callV (iv := mi_St_leave) rfl rfl rfl mw_1466 mw_1282 mw_1283 mw_4 mw_1284 ⟨by decide +kernel, by decide +kernel, by decide +kernel⟩ (by decide) d_St_push_154)) (os_n (os_l (so_iload d_St_push_157)) (os_l (so_zreturn rfl d_St_push_159)))))))))
abbrev t_Tp_hasRoom_22 : List UInt8 := 172 :: []
abbrev t_Tp_hasRoom_21 : List UInt8 := 3 :: t_Tp_hasRoom_22
abbrev t_Tp_hasRoom_18 : List UInt8 := 167 :: 0 :: 4 :: t_Tp_hasRoom_21
abbrev t_Tp_hasRoom_17 : List UInt8 := 4 :: t_Tp_hasRoom_18
abbrev t_Tp_hasRoom_14 : List UInt8 := 163 :: 0 :: 7 :: t_Tp_hasRoom_17
abbrev t_Tp_hasRoom_13 : List UInt8 := 104 :: t_Tp_hasRoom_14
abbrev t_Tp_hasRoom_12 : List UInt8 := 190 :: t_Tp_hasRoom_13
abbrev t_Tp_hasRoom_9 : List UInt8 := 180 :: 0 :: 9 :: t_Tp_hasRoom_12
abbrev t_Tp_hasRoom_8 : List UInt8 := 42 :: t_Tp_hasRoom_9
abbrev t_Tp_hasRoom_7 : List UInt8 := 7 :: t_Tp_hasRoom_8
abbrev t_Tp_hasRoom_6 : List UInt8 := 96 :: t_Tp_hasRoom_7
abbrev t_Tp_hasRoom_4 : List UInt8 := 16 :: 20 :: t_Tp_hasRoom_6
abbrev t_Tp_hasRoom_1 : List UInt8 := 180 :: 0 :: 15 :: t_Tp_hasRoom_4
abbrev t_Tp_hasRoom_0 : List UInt8 := 42 :: t_Tp_hasRoom_1
theorem a_Tp_hasRoom_0 : dk_at b_Tp_hasRoom 0 t_Tp_hasRoom_0 := dk_start (by decide +kernel)
theorem a_Tp_hasRoom_1 : dk_at b_Tp_hasRoom 1 t_Tp_hasRoom_1 := dk_go 1 a_Tp_hasRoom_0 rfl
theorem a_Tp_hasRoom_4 : dk_at b_Tp_hasRoom 4 t_Tp_hasRoom_4 := dk_go 3 a_Tp_hasRoom_1 rfl
theorem a_Tp_hasRoom_6 : dk_at b_Tp_hasRoom 6 t_Tp_hasRoom_6 := dk_go 2 a_Tp_hasRoom_4 rfl
theorem a_Tp_hasRoom_7 : dk_at b_Tp_hasRoom 7 t_Tp_hasRoom_7 := dk_go 1 a_Tp_hasRoom_6 rfl
theorem a_Tp_hasRoom_8 : dk_at b_Tp_hasRoom 8 t_Tp_hasRoom_8 := dk_go 1 a_Tp_hasRoom_7 rfl
theorem a_Tp_hasRoom_9 : dk_at b_Tp_hasRoom 9 t_Tp_hasRoom_9 := dk_go 1 a_Tp_hasRoom_8 rfl
theorem a_Tp_hasRoom_12 : dk_at b_Tp_hasRoom 12 t_Tp_hasRoom_12 := dk_go 3 a_Tp_hasRoom_9 rfl
theorem a_Tp_hasRoom_13 : dk_at b_Tp_hasRoom 13 t_Tp_hasRoom_13 := dk_go 1 a_Tp_hasRoom_12 rfl
theorem a_Tp_hasRoom_14 : dk_at b_Tp_hasRoom 14 t_Tp_hasRoom_14 := dk_go 1 a_Tp_hasRoom_13 rfl
theorem a_Tp_hasRoom_17 : dk_at b_Tp_hasRoom 17 t_Tp_hasRoom_17 := dk_go 3 a_Tp_hasRoom_14 rfl
theorem a_Tp_hasRoom_18 : dk_at b_Tp_hasRoom 18 t_Tp_hasRoom_18 := dk_go 1 a_Tp_hasRoom_17 rfl
theorem a_Tp_hasRoom_21 : dk_at b_Tp_hasRoom 21 t_Tp_hasRoom_21 := dk_go 3 a_Tp_hasRoom_18 rfl
theorem a_Tp_hasRoom_22 : dk_at b_Tp_hasRoom 22 t_Tp_hasRoom_22 := dk_go 1 a_Tp_hasRoom_21 rfl
theorem d_Tp_hasRoom_0 : decode b_Tp_hasRoom 0 = .ok (.aload_n 0, 1) := dk_0 a_Tp_hasRoom_0 (dko_42 _)
theorem d_Tp_hasRoom_1 : decode b_Tp_hasRoom 1 = .ok (.getfield 15, 3) := dk_U2 a_Tp_hasRoom_1 (dko_180 _) rfl
theorem d_Tp_hasRoom_4 : decode b_Tp_hasRoom 4 = .ok (.bipush 20, 2) := dk_S1 a_Tp_hasRoom_4 (dko_16 _) (by decide +kernel)
theorem d_Tp_hasRoom_6 : decode b_Tp_hasRoom 6 = .ok (.iadd, 1) := dk_0 a_Tp_hasRoom_6 (dko_96 _)
theorem d_Tp_hasRoom_7 : decode b_Tp_hasRoom 7 = .ok (.iconst 4, 1) := dk_0 a_Tp_hasRoom_7 (dko_7 _)
theorem d_Tp_hasRoom_8 : decode b_Tp_hasRoom 8 = .ok (.aload_n 0, 1) := dk_0 a_Tp_hasRoom_8 (dko_42 _)
theorem d_Tp_hasRoom_9 : decode b_Tp_hasRoom 9 = .ok (.getfield 9, 3) := dk_U2 a_Tp_hasRoom_9 (dko_180 _) rfl
theorem d_Tp_hasRoom_12 : decode b_Tp_hasRoom 12 = .ok (.arraylength, 1) := dk_0 a_Tp_hasRoom_12 (dko_190 _)
theorem d_Tp_hasRoom_13 : decode b_Tp_hasRoom 13 = .ok (.imul, 1) := dk_0 a_Tp_hasRoom_13 (dko_104 _)
theorem d_Tp_hasRoom_14 : decode b_Tp_hasRoom 14 = .ok (.if_icmp .gt 7, 3) := dk_S2 a_Tp_hasRoom_14 (dko_163 _) (by decide +kernel)
theorem d_Tp_hasRoom_17 : decode b_Tp_hasRoom 17 = .ok (.iconst 1, 1) := dk_0 a_Tp_hasRoom_17 (dko_4 _)
theorem d_Tp_hasRoom_18 : decode b_Tp_hasRoom 18 = .ok (.goto 4, 3) := dk_S2 a_Tp_hasRoom_18 (dko_167 _) (by decide +kernel)
theorem d_Tp_hasRoom_21 : decode b_Tp_hasRoom 21 = .ok (.iconst 0, 1) := dk_0 a_Tp_hasRoom_21 (dko_3 _)
theorem d_Tp_hasRoom_22 : decode b_Tp_hasRoom 22 = .ok (.ireturn, 1) := dk_0 a_Tp_hasRoom_22 (dko_172 _)
set_option maxHeartbeats 4000000 in
set_option maxRecDepth 100000 in
theorem ok_Tp_hasRoom (pc : Nat) : OpS mt mi_Tp_hasRoom pc (cs_Tp_hasRoom pc) := (os_n (os_n (os_n (os_l (so_aload_n d_Tp_hasRoom_0 rfl)) (os_n (os_l (so_get (C := R_Tp) (T := F_Tp) (N := 3) (j := 1) in_Tp rfl (by decide) mw_39 d_Tp_hasRoom_1)) (os_l (so_bipush d_Tp_hasRoom_4 (by decide))))) (os_n (os_n (os_l (so_iadd d_Tp_hasRoom_6)) (os_l (so_iconst d_Tp_hasRoom_7 (by decide)))) (os_n (os_l (so_aload_n d_Tp_hasRoom_8 rfl)) (os_l (so_get (C := R_Tp) (T := F_Tp) (N := 3) (j := 0) in_Tp rfl (by decide) mw_38 d_Tp_hasRoom_9))))) (os_n (os_n (os_l (so_alen d_Tp_hasRoom_12)) (os_n (os_l (so_imul d_Tp_hasRoom_13)) (os_l (so_icgt d_Tp_hasRoom_14 (by decide))))) (os_n (os_n (os_l (so_iconst d_Tp_hasRoom_17 (by decide))) (os_l (so_goto d_Tp_hasRoom_18 (by decide)))) (os_n (os_l (so_iconst d_Tp_hasRoom_21 (by decide))) (os_l (so_zreturn rfl d_Tp_hasRoom_22))))))
abbrev t_Tp_put_33 : List UInt8 := 177 :: []
abbrev t_Tp_put_30 : List UInt8 := 181 :: 0 :: 15 :: t_Tp_put_33
abbrev t_Tp_put_29 : List UInt8 := 96 :: t_Tp_put_30
abbrev t_Tp_put_28 : List UInt8 := 7 :: t_Tp_put_29
abbrev t_Tp_put_25 : List UInt8 := 180 :: 0 :: 15 :: t_Tp_put_28
abbrev t_Tp_put_24 : List UInt8 := 89 :: t_Tp_put_25
abbrev t_Tp_put_23 : List UInt8 := 42 :: t_Tp_put_24
abbrev t_Tp_put_22 : List UInt8 := 79 :: t_Tp_put_23
abbrev t_Tp_put_21 : List UInt8 := 27 :: t_Tp_put_22
abbrev t_Tp_put_20 : List UInt8 := 28 :: t_Tp_put_21
abbrev t_Tp_put_17 : List UInt8 := 180 :: 0 :: 9 :: t_Tp_put_20
abbrev t_Tp_put_16 : List UInt8 := 42 :: t_Tp_put_17
abbrev t_Tp_put_13 : List UInt8 := 162 :: 0 :: 20 :: t_Tp_put_16
abbrev t_Tp_put_12 : List UInt8 := 190 :: t_Tp_put_13
abbrev t_Tp_put_9 : List UInt8 := 180 :: 0 :: 9 :: t_Tp_put_12
abbrev t_Tp_put_8 : List UInt8 := 42 :: t_Tp_put_9
abbrev t_Tp_put_7 : List UInt8 := 28 :: t_Tp_put_8
abbrev t_Tp_put_6 : List UInt8 := 61 :: t_Tp_put_7
abbrev t_Tp_put_5 : List UInt8 := 122 :: t_Tp_put_6
abbrev t_Tp_put_4 : List UInt8 := 5 :: t_Tp_put_5
abbrev t_Tp_put_1 : List UInt8 := 180 :: 0 :: 15 :: t_Tp_put_4
abbrev t_Tp_put_0 : List UInt8 := 42 :: t_Tp_put_1
theorem a_Tp_put_0 : dk_at b_Tp_put 0 t_Tp_put_0 := dk_start (by decide +kernel)
theorem a_Tp_put_1 : dk_at b_Tp_put 1 t_Tp_put_1 := dk_go 1 a_Tp_put_0 rfl
theorem a_Tp_put_4 : dk_at b_Tp_put 4 t_Tp_put_4 := dk_go 3 a_Tp_put_1 rfl
theorem a_Tp_put_5 : dk_at b_Tp_put 5 t_Tp_put_5 := dk_go 1 a_Tp_put_4 rfl
theorem a_Tp_put_6 : dk_at b_Tp_put 6 t_Tp_put_6 := dk_go 1 a_Tp_put_5 rfl
theorem a_Tp_put_7 : dk_at b_Tp_put 7 t_Tp_put_7 := dk_go 1 a_Tp_put_6 rfl
theorem a_Tp_put_8 : dk_at b_Tp_put 8 t_Tp_put_8 := dk_go 1 a_Tp_put_7 rfl
theorem a_Tp_put_9 : dk_at b_Tp_put 9 t_Tp_put_9 := dk_go 1 a_Tp_put_8 rfl
theorem a_Tp_put_12 : dk_at b_Tp_put 12 t_Tp_put_12 := dk_go 3 a_Tp_put_9 rfl
theorem a_Tp_put_13 : dk_at b_Tp_put 13 t_Tp_put_13 := dk_go 1 a_Tp_put_12 rfl
theorem a_Tp_put_16 : dk_at b_Tp_put 16 t_Tp_put_16 := dk_go 3 a_Tp_put_13 rfl
theorem a_Tp_put_17 : dk_at b_Tp_put 17 t_Tp_put_17 := dk_go 1 a_Tp_put_16 rfl
theorem a_Tp_put_20 : dk_at b_Tp_put 20 t_Tp_put_20 := dk_go 3 a_Tp_put_17 rfl
theorem a_Tp_put_21 : dk_at b_Tp_put 21 t_Tp_put_21 := dk_go 1 a_Tp_put_20 rfl
theorem a_Tp_put_22 : dk_at b_Tp_put 22 t_Tp_put_22 := dk_go 1 a_Tp_put_21 rfl
theorem a_Tp_put_23 : dk_at b_Tp_put 23 t_Tp_put_23 := dk_go 1 a_Tp_put_22 rfl
theorem a_Tp_put_24 : dk_at b_Tp_put 24 t_Tp_put_24 := dk_go 1 a_Tp_put_23 rfl
theorem a_Tp_put_25 : dk_at b_Tp_put 25 t_Tp_put_25 := dk_go 1 a_Tp_put_24 rfl
theorem a_Tp_put_28 : dk_at b_Tp_put 28 t_Tp_put_28 := dk_go 3 a_Tp_put_25 rfl
theorem a_Tp_put_29 : dk_at b_Tp_put 29 t_Tp_put_29 := dk_go 1 a_Tp_put_28 rfl
theorem a_Tp_put_30 : dk_at b_Tp_put 30 t_Tp_put_30 := dk_go 1 a_Tp_put_29 rfl
theorem a_Tp_put_33 : dk_at b_Tp_put 33 t_Tp_put_33 := dk_go 3 a_Tp_put_30 rfl
theorem d_Tp_put_0 : decode b_Tp_put 0 = .ok (.aload_n 0, 1) := dk_0 a_Tp_put_0 (dko_42 _)
theorem d_Tp_put_1 : decode b_Tp_put 1 = .ok (.getfield 15, 3) := dk_U2 a_Tp_put_1 (dko_180 _) rfl
theorem d_Tp_put_4 : decode b_Tp_put 4 = .ok (.iconst 2, 1) := dk_0 a_Tp_put_4 (dko_5 _)
theorem d_Tp_put_5 : decode b_Tp_put 5 = .ok (.ishr, 1) := dk_0 a_Tp_put_5 (dko_122 _)
theorem d_Tp_put_6 : decode b_Tp_put 6 = .ok (.istore_n 2, 1) := dk_0 a_Tp_put_6 (dko_61 _)
theorem d_Tp_put_7 : decode b_Tp_put 7 = .ok (.iload_n 2, 1) := dk_0 a_Tp_put_7 (dko_28 _)
theorem d_Tp_put_8 : decode b_Tp_put 8 = .ok (.aload_n 0, 1) := dk_0 a_Tp_put_8 (dko_42 _)
theorem d_Tp_put_9 : decode b_Tp_put 9 = .ok (.getfield 9, 3) := dk_U2 a_Tp_put_9 (dko_180 _) rfl
theorem d_Tp_put_12 : decode b_Tp_put 12 = .ok (.arraylength, 1) := dk_0 a_Tp_put_12 (dko_190 _)
theorem d_Tp_put_13 : decode b_Tp_put 13 = .ok (.if_icmp .ge 20, 3) := dk_S2 a_Tp_put_13 (dko_162 _) (by decide +kernel)
theorem d_Tp_put_16 : decode b_Tp_put 16 = .ok (.aload_n 0, 1) := dk_0 a_Tp_put_16 (dko_42 _)
theorem d_Tp_put_17 : decode b_Tp_put 17 = .ok (.getfield 9, 3) := dk_U2 a_Tp_put_17 (dko_180 _) rfl
theorem d_Tp_put_20 : decode b_Tp_put 20 = .ok (.iload_n 2, 1) := dk_0 a_Tp_put_20 (dko_28 _)
theorem d_Tp_put_21 : decode b_Tp_put 21 = .ok (.iload_n 1, 1) := dk_0 a_Tp_put_21 (dko_27 _)
theorem d_Tp_put_22 : decode b_Tp_put 22 = .ok (.iastore, 1) := dk_0 a_Tp_put_22 (dko_79 _)
theorem d_Tp_put_23 : decode b_Tp_put 23 = .ok (.aload_n 0, 1) := dk_0 a_Tp_put_23 (dko_42 _)
theorem d_Tp_put_24 : decode b_Tp_put 24 = .ok (.dup, 1) := dk_0 a_Tp_put_24 (dko_89 _)
theorem d_Tp_put_25 : decode b_Tp_put 25 = .ok (.getfield 15, 3) := dk_U2 a_Tp_put_25 (dko_180 _) rfl
theorem d_Tp_put_28 : decode b_Tp_put 28 = .ok (.iconst 4, 1) := dk_0 a_Tp_put_28 (dko_7 _)
theorem d_Tp_put_29 : decode b_Tp_put 29 = .ok (.iadd, 1) := dk_0 a_Tp_put_29 (dko_96 _)
theorem d_Tp_put_30 : decode b_Tp_put 30 = .ok (.putfield 15, 3) := dk_U2 a_Tp_put_30 (dko_181 _) rfl
theorem d_Tp_put_33 : decode b_Tp_put 33 = .ok (.return_, 1) := dk_0 a_Tp_put_33 (dko_177 _)
set_option maxHeartbeats 4000000 in
set_option maxRecDepth 100000 in
theorem ok_Tp_put (pc : Nat) : OpS mt mi_Tp_put pc (cs_Tp_put pc) := (os_n (os_n (os_n (os_n (os_l (so_aload_n d_Tp_put_0 rfl)) (os_l (so_get (C := R_Tp) (T := F_Tp) (N := 3) (j := 1) in_Tp rfl (by decide) mw_39 d_Tp_put_1))) (os_n (os_l (so_iconst d_Tp_put_4 (by decide))) (os_n (os_l (so_ishr d_Tp_put_5)) (os_l (so_istore_n d_Tp_put_6 rfl (by decide)))))) (os_n (os_n (os_l (so_iload_n d_Tp_put_7 rfl)) (os_n (os_l (so_aload_n d_Tp_put_8 rfl)) (os_l (so_get (C := R_Tp) (T := F_Tp) (N := 3) (j := 0) in_Tp rfl (by decide) mw_38 d_Tp_put_9)))) (os_n (os_l (so_alen d_Tp_put_12)) (os_n (os_l (so_icge d_Tp_put_13 (by decide))) (os_l (so_aload_n d_Tp_put_16 rfl)))))) (os_n (os_n (os_n (os_l (so_get (C := R_Tp) (T := F_Tp) (N := 3) (j := 0) in_Tp rfl (by decide) mw_38 d_Tp_put_17)) (os_l (so_iload_n d_Tp_put_20 rfl))) (os_n (os_l (so_iload_n d_Tp_put_21 rfl)) (os_n (os_l (so_iastore d_Tp_put_22)) (os_l (so_aload_n d_Tp_put_23 rfl))))) (os_n (os_n (os_l (so_dup d_Tp_put_24)) (os_n (os_l (so_get (C := R_Tp) (T := F_Tp) (N := 3) (j := 1) in_Tp rfl (by decide) mw_39 d_Tp_put_25)) (os_l (so_iconst d_Tp_put_28 (by decide))))) (os_n (os_l (so_iadd d_Tp_put_29)) (os_n (os_l (so_putI (C := R_Tp) (T := F_Tp) (N := 3) (j := 1) in_Tp t_Tp_ok n_Tp rfl (by decide) mw_39 rfl (by decide +kernel) d_Tp_put_30)) (os_l (so_return rfl d_Tp_put_33)))))))
abbrev t_Tp_at_47 : List UInt8 := 172 :: []
abbrev t_Tp_at_46 : List UInt8 := 126 :: t_Tp_at_47
abbrev t_Tp_at_43 : List UInt8 := 17 :: 0 :: 255 :: t_Tp_at_46
abbrev t_Tp_at_42 : List UInt8 := 124 :: t_Tp_at_43
abbrev t_Tp_at_41 : List UInt8 := 100 :: t_Tp_at_42
abbrev t_Tp_at_40 : List UInt8 := 104 :: t_Tp_at_41
abbrev t_Tp_at_39 : List UInt8 := 126 :: t_Tp_at_40
abbrev t_Tp_at_38 : List UInt8 := 6 :: t_Tp_at_39
abbrev t_Tp_at_37 : List UInt8 := 27 :: t_Tp_at_38
abbrev t_Tp_at_35 : List UInt8 := 16 :: 8 :: t_Tp_at_37
abbrev t_Tp_at_33 : List UInt8 := 16 :: 24 :: t_Tp_at_35
abbrev t_Tp_at_32 : List UInt8 := 46 :: t_Tp_at_33
abbrev t_Tp_at_31 : List UInt8 := 122 :: t_Tp_at_32
abbrev t_Tp_at_30 : List UInt8 := 5 :: t_Tp_at_31
abbrev t_Tp_at_29 : List UInt8 := 27 :: t_Tp_at_30
abbrev t_Tp_at_26 : List UInt8 := 180 :: 0 :: 9 :: t_Tp_at_29
abbrev t_Tp_at_25 : List UInt8 := 42 :: t_Tp_at_26
abbrev t_Tp_at_24 : List UInt8 := 172 :: t_Tp_at_25
abbrev t_Tp_at_23 : List UInt8 := 2 :: t_Tp_at_24
abbrev t_Tp_at_20 : List UInt8 := 161 :: 0 :: 5 :: t_Tp_at_23
abbrev t_Tp_at_19 : List UInt8 := 104 :: t_Tp_at_20
abbrev t_Tp_at_18 : List UInt8 := 190 :: t_Tp_at_19
abbrev t_Tp_at_15 : List UInt8 := 180 :: 0 :: 9 :: t_Tp_at_18
abbrev t_Tp_at_14 : List UInt8 := 42 :: t_Tp_at_15
abbrev t_Tp_at_13 : List UInt8 := 7 :: t_Tp_at_14
abbrev t_Tp_at_12 : List UInt8 := 27 :: t_Tp_at_13
abbrev t_Tp_at_9 : List UInt8 := 162 :: 0 :: 14 :: t_Tp_at_12
abbrev t_Tp_at_6 : List UInt8 := 180 :: 0 :: 19 :: t_Tp_at_9
abbrev t_Tp_at_5 : List UInt8 := 42 :: t_Tp_at_6
abbrev t_Tp_at_4 : List UInt8 := 27 :: t_Tp_at_5
abbrev t_Tp_at_1 : List UInt8 := 155 :: 0 :: 22 :: t_Tp_at_4
abbrev t_Tp_at_0 : List UInt8 := 27 :: t_Tp_at_1
theorem a_Tp_at_0 : dk_at b_Tp_at 0 t_Tp_at_0 := dk_start (by decide +kernel)
theorem a_Tp_at_1 : dk_at b_Tp_at 1 t_Tp_at_1 := dk_go 1 a_Tp_at_0 rfl
theorem a_Tp_at_4 : dk_at b_Tp_at 4 t_Tp_at_4 := dk_go 3 a_Tp_at_1 rfl
theorem a_Tp_at_5 : dk_at b_Tp_at 5 t_Tp_at_5 := dk_go 1 a_Tp_at_4 rfl
theorem a_Tp_at_6 : dk_at b_Tp_at 6 t_Tp_at_6 := dk_go 1 a_Tp_at_5 rfl
theorem a_Tp_at_9 : dk_at b_Tp_at 9 t_Tp_at_9 := dk_go 3 a_Tp_at_6 rfl
theorem a_Tp_at_12 : dk_at b_Tp_at 12 t_Tp_at_12 := dk_go 3 a_Tp_at_9 rfl
theorem a_Tp_at_13 : dk_at b_Tp_at 13 t_Tp_at_13 := dk_go 1 a_Tp_at_12 rfl
theorem a_Tp_at_14 : dk_at b_Tp_at 14 t_Tp_at_14 := dk_go 1 a_Tp_at_13 rfl
theorem a_Tp_at_15 : dk_at b_Tp_at 15 t_Tp_at_15 := dk_go 1 a_Tp_at_14 rfl
theorem a_Tp_at_18 : dk_at b_Tp_at 18 t_Tp_at_18 := dk_go 3 a_Tp_at_15 rfl
theorem a_Tp_at_19 : dk_at b_Tp_at 19 t_Tp_at_19 := dk_go 1 a_Tp_at_18 rfl
theorem a_Tp_at_20 : dk_at b_Tp_at 20 t_Tp_at_20 := dk_go 1 a_Tp_at_19 rfl
theorem a_Tp_at_23 : dk_at b_Tp_at 23 t_Tp_at_23 := dk_go 3 a_Tp_at_20 rfl
theorem a_Tp_at_24 : dk_at b_Tp_at 24 t_Tp_at_24 := dk_go 1 a_Tp_at_23 rfl
theorem a_Tp_at_25 : dk_at b_Tp_at 25 t_Tp_at_25 := dk_go 1 a_Tp_at_24 rfl
theorem a_Tp_at_26 : dk_at b_Tp_at 26 t_Tp_at_26 := dk_go 1 a_Tp_at_25 rfl
theorem a_Tp_at_29 : dk_at b_Tp_at 29 t_Tp_at_29 := dk_go 3 a_Tp_at_26 rfl
theorem a_Tp_at_30 : dk_at b_Tp_at 30 t_Tp_at_30 := dk_go 1 a_Tp_at_29 rfl
theorem a_Tp_at_31 : dk_at b_Tp_at 31 t_Tp_at_31 := dk_go 1 a_Tp_at_30 rfl
theorem a_Tp_at_32 : dk_at b_Tp_at 32 t_Tp_at_32 := dk_go 1 a_Tp_at_31 rfl
theorem a_Tp_at_33 : dk_at b_Tp_at 33 t_Tp_at_33 := dk_go 1 a_Tp_at_32 rfl
theorem a_Tp_at_35 : dk_at b_Tp_at 35 t_Tp_at_35 := dk_go 2 a_Tp_at_33 rfl
theorem a_Tp_at_37 : dk_at b_Tp_at 37 t_Tp_at_37 := dk_go 2 a_Tp_at_35 rfl
theorem a_Tp_at_38 : dk_at b_Tp_at 38 t_Tp_at_38 := dk_go 1 a_Tp_at_37 rfl
theorem a_Tp_at_39 : dk_at b_Tp_at 39 t_Tp_at_39 := dk_go 1 a_Tp_at_38 rfl
theorem a_Tp_at_40 : dk_at b_Tp_at 40 t_Tp_at_40 := dk_go 1 a_Tp_at_39 rfl
theorem a_Tp_at_41 : dk_at b_Tp_at 41 t_Tp_at_41 := dk_go 1 a_Tp_at_40 rfl
theorem a_Tp_at_42 : dk_at b_Tp_at 42 t_Tp_at_42 := dk_go 1 a_Tp_at_41 rfl
theorem a_Tp_at_43 : dk_at b_Tp_at 43 t_Tp_at_43 := dk_go 1 a_Tp_at_42 rfl
theorem a_Tp_at_46 : dk_at b_Tp_at 46 t_Tp_at_46 := dk_go 3 a_Tp_at_43 rfl
theorem a_Tp_at_47 : dk_at b_Tp_at 47 t_Tp_at_47 := dk_go 1 a_Tp_at_46 rfl
theorem d_Tp_at_0 : decode b_Tp_at 0 = .ok (.iload_n 1, 1) := dk_0 a_Tp_at_0 (dko_27 _)
theorem d_Tp_at_1 : decode b_Tp_at 1 = .ok (.ifCond .lt 22, 3) := dk_S2 a_Tp_at_1 (dko_155 _) (by decide +kernel)
theorem d_Tp_at_4 : decode b_Tp_at 4 = .ok (.iload_n 1, 1) := dk_0 a_Tp_at_4 (dko_27 _)
theorem d_Tp_at_5 : decode b_Tp_at 5 = .ok (.aload_n 0, 1) := dk_0 a_Tp_at_5 (dko_42 _)
theorem d_Tp_at_6 : decode b_Tp_at 6 = .ok (.getfield 19, 3) := dk_U2 a_Tp_at_6 (dko_180 _) rfl
theorem d_Tp_at_9 : decode b_Tp_at 9 = .ok (.if_icmp .ge 14, 3) := dk_S2 a_Tp_at_9 (dko_162 _) (by decide +kernel)
theorem d_Tp_at_12 : decode b_Tp_at 12 = .ok (.iload_n 1, 1) := dk_0 a_Tp_at_12 (dko_27 _)
theorem d_Tp_at_13 : decode b_Tp_at 13 = .ok (.iconst 4, 1) := dk_0 a_Tp_at_13 (dko_7 _)
theorem d_Tp_at_14 : decode b_Tp_at 14 = .ok (.aload_n 0, 1) := dk_0 a_Tp_at_14 (dko_42 _)
theorem d_Tp_at_15 : decode b_Tp_at 15 = .ok (.getfield 9, 3) := dk_U2 a_Tp_at_15 (dko_180 _) rfl
theorem d_Tp_at_18 : decode b_Tp_at 18 = .ok (.arraylength, 1) := dk_0 a_Tp_at_18 (dko_190 _)
theorem d_Tp_at_19 : decode b_Tp_at 19 = .ok (.imul, 1) := dk_0 a_Tp_at_19 (dko_104 _)
theorem d_Tp_at_20 : decode b_Tp_at 20 = .ok (.if_icmp .lt 5, 3) := dk_S2 a_Tp_at_20 (dko_161 _) (by decide +kernel)
theorem d_Tp_at_23 : decode b_Tp_at 23 = .ok (.iconst (-1), 1) := dk_0 a_Tp_at_23 (dko_2 _)
theorem d_Tp_at_24 : decode b_Tp_at 24 = .ok (.ireturn, 1) := dk_0 a_Tp_at_24 (dko_172 _)
theorem d_Tp_at_25 : decode b_Tp_at 25 = .ok (.aload_n 0, 1) := dk_0 a_Tp_at_25 (dko_42 _)
theorem d_Tp_at_26 : decode b_Tp_at 26 = .ok (.getfield 9, 3) := dk_U2 a_Tp_at_26 (dko_180 _) rfl
theorem d_Tp_at_29 : decode b_Tp_at 29 = .ok (.iload_n 1, 1) := dk_0 a_Tp_at_29 (dko_27 _)
theorem d_Tp_at_30 : decode b_Tp_at 30 = .ok (.iconst 2, 1) := dk_0 a_Tp_at_30 (dko_5 _)
theorem d_Tp_at_31 : decode b_Tp_at 31 = .ok (.ishr, 1) := dk_0 a_Tp_at_31 (dko_122 _)
theorem d_Tp_at_32 : decode b_Tp_at 32 = .ok (.iaload, 1) := dk_0 a_Tp_at_32 (dko_46 _)
theorem d_Tp_at_33 : decode b_Tp_at 33 = .ok (.bipush 24, 2) := dk_S1 a_Tp_at_33 (dko_16 _) (by decide +kernel)
theorem d_Tp_at_35 : decode b_Tp_at 35 = .ok (.bipush 8, 2) := dk_S1 a_Tp_at_35 (dko_16 _) (by decide +kernel)
theorem d_Tp_at_37 : decode b_Tp_at 37 = .ok (.iload_n 1, 1) := dk_0 a_Tp_at_37 (dko_27 _)
theorem d_Tp_at_38 : decode b_Tp_at 38 = .ok (.iconst 3, 1) := dk_0 a_Tp_at_38 (dko_6 _)
theorem d_Tp_at_39 : decode b_Tp_at 39 = .ok (.iand, 1) := dk_0 a_Tp_at_39 (dko_126 _)
theorem d_Tp_at_40 : decode b_Tp_at 40 = .ok (.imul, 1) := dk_0 a_Tp_at_40 (dko_104 _)
theorem d_Tp_at_41 : decode b_Tp_at 41 = .ok (.isub, 1) := dk_0 a_Tp_at_41 (dko_100 _)
theorem d_Tp_at_42 : decode b_Tp_at 42 = .ok (.iushr, 1) := dk_0 a_Tp_at_42 (dko_124 _)
theorem d_Tp_at_43 : decode b_Tp_at 43 = .ok (.sipush 255, 3) := dk_S2 a_Tp_at_43 (dko_17 _) (by decide +kernel)
theorem d_Tp_at_46 : decode b_Tp_at 46 = .ok (.iand, 1) := dk_0 a_Tp_at_46 (dko_126 _)
theorem d_Tp_at_47 : decode b_Tp_at 47 = .ok (.ireturn, 1) := dk_0 a_Tp_at_47 (dko_172 _)
set_option maxHeartbeats 4000000 in
set_option maxRecDepth 100000 in
theorem ok_Tp_at (pc : Nat) : OpS mt mi_Tp_at pc (cs_Tp_at pc) := (os_n (os_n (os_n (os_n (os_n (os_l (so_iload_n d_Tp_at_0 rfl)) (os_l (so_iflt d_Tp_at_1 (by decide)))) (os_n (os_l (so_iload_n d_Tp_at_4 rfl)) (os_l (so_aload_n d_Tp_at_5 rfl)))) (os_n (os_n (os_l (so_get (C := R_Tp) (T := F_Tp) (N := 3) (j := 2) in_Tp rfl (by decide) mw_43 d_Tp_at_6)) (os_l (so_icge d_Tp_at_9 (by decide)))) (os_n (os_l (so_iload_n d_Tp_at_12 rfl)) (os_l (so_iconst d_Tp_at_13 (by decide)))))) (os_n (os_n (os_n (os_l (so_aload_n d_Tp_at_14 rfl)) (os_l (so_get (C := R_Tp) (T := F_Tp) (N := 3) (j := 0) in_Tp rfl (by decide) mw_38 d_Tp_at_15))) (os_n (os_l (so_alen d_Tp_at_18)) (os_l (so_imul d_Tp_at_19)))) (os_n (os_n (os_l (so_iclt d_Tp_at_20 (by decide))) (os_l (so_iconst d_Tp_at_23 (by decide)))) (os_n (os_l (so_ireturn rfl d_Tp_at_24)) (os_l (so_aload_n d_Tp_at_25 rfl)))))) (os_n (os_n (os_n (os_n (os_l (so_get (C := R_Tp) (T := F_Tp) (N := 3) (j := 0) in_Tp rfl (by decide) mw_38 d_Tp_at_26)) (os_l (so_iload_n d_Tp_at_29 rfl))) (os_n (os_l (so_iconst d_Tp_at_30 (by decide))) (os_l (so_ishr d_Tp_at_31)))) (os_n (os_n (os_l (so_iaload d_Tp_at_32)) (os_l (so_bipush d_Tp_at_33 (by decide)))) (os_n (os_l (so_bipush d_Tp_at_35 (by decide))) (os_l (so_iload_n d_Tp_at_37 rfl))))) (os_n (os_n (os_n (os_l (so_iconst d_Tp_at_38 (by decide))) (os_l (so_iand d_Tp_at_39))) (os_n (os_l (so_imul d_Tp_at_40)) (os_l (so_isub d_Tp_at_41)))) (os_n (os_n (os_l (so_iushr d_Tp_at_42)) (os_l (so_sipush d_Tp_at_43 (by decide)))) (os_n (os_l (so_iand d_Tp_at_46)) (os_l (so_ireturn rfl d_Tp_at_47)))))))
abbrev t_Tp_isDigit_17 : List UInt8 := 172 :: []
abbrev t_Tp_isDigit_16 : List UInt8 := 3 :: t_Tp_isDigit_17
abbrev t_Tp_isDigit_13 : List UInt8 := 167 :: 0 :: 4 :: t_Tp_isDigit_16
abbrev t_Tp_isDigit_12 : List UInt8 := 4 :: t_Tp_isDigit_13
abbrev t_Tp_isDigit_9 : List UInt8 := 163 :: 0 :: 7 :: t_Tp_isDigit_12
abbrev t_Tp_isDigit_7 : List UInt8 := 16 :: 57 :: t_Tp_isDigit_9
abbrev t_Tp_isDigit_6 : List UInt8 := 26 :: t_Tp_isDigit_7
abbrev t_Tp_isDigit_3 : List UInt8 := 161 :: 0 :: 13 :: t_Tp_isDigit_6
abbrev t_Tp_isDigit_1 : List UInt8 := 16 :: 48 :: t_Tp_isDigit_3
abbrev t_Tp_isDigit_0 : List UInt8 := 26 :: t_Tp_isDigit_1
theorem a_Tp_isDigit_0 : dk_at b_Tp_isDigit 0 t_Tp_isDigit_0 := dk_start (by decide +kernel)
theorem a_Tp_isDigit_1 : dk_at b_Tp_isDigit 1 t_Tp_isDigit_1 := dk_go 1 a_Tp_isDigit_0 rfl
theorem a_Tp_isDigit_3 : dk_at b_Tp_isDigit 3 t_Tp_isDigit_3 := dk_go 2 a_Tp_isDigit_1 rfl
theorem a_Tp_isDigit_6 : dk_at b_Tp_isDigit 6 t_Tp_isDigit_6 := dk_go 3 a_Tp_isDigit_3 rfl
theorem a_Tp_isDigit_7 : dk_at b_Tp_isDigit 7 t_Tp_isDigit_7 := dk_go 1 a_Tp_isDigit_6 rfl
theorem a_Tp_isDigit_9 : dk_at b_Tp_isDigit 9 t_Tp_isDigit_9 := dk_go 2 a_Tp_isDigit_7 rfl
theorem a_Tp_isDigit_12 : dk_at b_Tp_isDigit 12 t_Tp_isDigit_12 := dk_go 3 a_Tp_isDigit_9 rfl
theorem a_Tp_isDigit_13 : dk_at b_Tp_isDigit 13 t_Tp_isDigit_13 := dk_go 1 a_Tp_isDigit_12 rfl
theorem a_Tp_isDigit_16 : dk_at b_Tp_isDigit 16 t_Tp_isDigit_16 := dk_go 3 a_Tp_isDigit_13 rfl
theorem a_Tp_isDigit_17 : dk_at b_Tp_isDigit 17 t_Tp_isDigit_17 := dk_go 1 a_Tp_isDigit_16 rfl
theorem d_Tp_isDigit_0 : decode b_Tp_isDigit 0 = .ok (.iload_n 0, 1) := dk_0 a_Tp_isDigit_0 (dko_26 _)
theorem d_Tp_isDigit_1 : decode b_Tp_isDigit 1 = .ok (.bipush 48, 2) := dk_S1 a_Tp_isDigit_1 (dko_16 _) (by decide +kernel)
theorem d_Tp_isDigit_3 : decode b_Tp_isDigit 3 = .ok (.if_icmp .lt 13, 3) := dk_S2 a_Tp_isDigit_3 (dko_161 _) (by decide +kernel)
theorem d_Tp_isDigit_6 : decode b_Tp_isDigit 6 = .ok (.iload_n 0, 1) := dk_0 a_Tp_isDigit_6 (dko_26 _)
theorem d_Tp_isDigit_7 : decode b_Tp_isDigit 7 = .ok (.bipush 57, 2) := dk_S1 a_Tp_isDigit_7 (dko_16 _) (by decide +kernel)
theorem d_Tp_isDigit_9 : decode b_Tp_isDigit 9 = .ok (.if_icmp .gt 7, 3) := dk_S2 a_Tp_isDigit_9 (dko_163 _) (by decide +kernel)
theorem d_Tp_isDigit_12 : decode b_Tp_isDigit 12 = .ok (.iconst 1, 1) := dk_0 a_Tp_isDigit_12 (dko_4 _)
theorem d_Tp_isDigit_13 : decode b_Tp_isDigit 13 = .ok (.goto 4, 3) := dk_S2 a_Tp_isDigit_13 (dko_167 _) (by decide +kernel)
theorem d_Tp_isDigit_16 : decode b_Tp_isDigit 16 = .ok (.iconst 0, 1) := dk_0 a_Tp_isDigit_16 (dko_3 _)
theorem d_Tp_isDigit_17 : decode b_Tp_isDigit 17 = .ok (.ireturn, 1) := dk_0 a_Tp_isDigit_17 (dko_172 _)
set_option maxHeartbeats 4000000 in
set_option maxRecDepth 100000 in
theorem ok_Tp_isDigit (pc : Nat) : OpS mt mi_Tp_isDigit pc (cs_Tp_isDigit pc) := (os_n (os_n (os_n (os_l (so_iload_n d_Tp_isDigit_0 rfl)) (os_l (so_bipush d_Tp_isDigit_1 (by decide)))) (os_n (os_l (so_iclt d_Tp_isDigit_3 (by decide))) (os_n (os_l (so_iload_n d_Tp_isDigit_6 rfl)) (os_l (so_bipush d_Tp_isDigit_7 (by decide)))))) (os_n (os_n (os_l (so_icgt d_Tp_isDigit_9 (by decide))) (os_l (so_iconst d_Tp_isDigit_12 (by decide)))) (os_n (os_l (so_goto d_Tp_isDigit_13 (by decide))) (os_n (os_l (so_iconst d_Tp_isDigit_16 (by decide))) (os_l (so_zreturn rfl d_Tp_isDigit_17))))))
abbrev t_Tp_isLetter_17 : List UInt8 := 172 :: []
abbrev t_Tp_isLetter_16 : List UInt8 := 3 :: t_Tp_isLetter_17
abbrev t_Tp_isLetter_13 : List UInt8 := 167 :: 0 :: 4 :: t_Tp_isLetter_16
abbrev t_Tp_isLetter_12 : List UInt8 := 4 :: t_Tp_isLetter_13
abbrev t_Tp_isLetter_9 : List UInt8 := 163 :: 0 :: 7 :: t_Tp_isLetter_12
abbrev t_Tp_isLetter_7 : List UInt8 := 16 :: 122 :: t_Tp_isLetter_9
abbrev t_Tp_isLetter_6 : List UInt8 := 26 :: t_Tp_isLetter_7
abbrev t_Tp_isLetter_3 : List UInt8 := 161 :: 0 :: 13 :: t_Tp_isLetter_6
abbrev t_Tp_isLetter_1 : List UInt8 := 16 :: 97 :: t_Tp_isLetter_3
abbrev t_Tp_isLetter_0 : List UInt8 := 26 :: t_Tp_isLetter_1
theorem a_Tp_isLetter_0 : dk_at b_Tp_isLetter 0 t_Tp_isLetter_0 := dk_start (by decide +kernel)
theorem a_Tp_isLetter_1 : dk_at b_Tp_isLetter 1 t_Tp_isLetter_1 := dk_go 1 a_Tp_isLetter_0 rfl
theorem a_Tp_isLetter_3 : dk_at b_Tp_isLetter 3 t_Tp_isLetter_3 := dk_go 2 a_Tp_isLetter_1 rfl
theorem a_Tp_isLetter_6 : dk_at b_Tp_isLetter 6 t_Tp_isLetter_6 := dk_go 3 a_Tp_isLetter_3 rfl
theorem a_Tp_isLetter_7 : dk_at b_Tp_isLetter 7 t_Tp_isLetter_7 := dk_go 1 a_Tp_isLetter_6 rfl
theorem a_Tp_isLetter_9 : dk_at b_Tp_isLetter 9 t_Tp_isLetter_9 := dk_go 2 a_Tp_isLetter_7 rfl
theorem a_Tp_isLetter_12 : dk_at b_Tp_isLetter 12 t_Tp_isLetter_12 := dk_go 3 a_Tp_isLetter_9 rfl
theorem a_Tp_isLetter_13 : dk_at b_Tp_isLetter 13 t_Tp_isLetter_13 := dk_go 1 a_Tp_isLetter_12 rfl
theorem a_Tp_isLetter_16 : dk_at b_Tp_isLetter 16 t_Tp_isLetter_16 := dk_go 3 a_Tp_isLetter_13 rfl
theorem a_Tp_isLetter_17 : dk_at b_Tp_isLetter 17 t_Tp_isLetter_17 := dk_go 1 a_Tp_isLetter_16 rfl
theorem d_Tp_isLetter_0 : decode b_Tp_isLetter 0 = .ok (.iload_n 0, 1) := dk_0 a_Tp_isLetter_0 (dko_26 _)
theorem d_Tp_isLetter_1 : decode b_Tp_isLetter 1 = .ok (.bipush 97, 2) := dk_S1 a_Tp_isLetter_1 (dko_16 _) (by decide +kernel)
theorem d_Tp_isLetter_3 : decode b_Tp_isLetter 3 = .ok (.if_icmp .lt 13, 3) := dk_S2 a_Tp_isLetter_3 (dko_161 _) (by decide +kernel)
theorem d_Tp_isLetter_6 : decode b_Tp_isLetter 6 = .ok (.iload_n 0, 1) := dk_0 a_Tp_isLetter_6 (dko_26 _)
theorem d_Tp_isLetter_7 : decode b_Tp_isLetter 7 = .ok (.bipush 122, 2) := dk_S1 a_Tp_isLetter_7 (dko_16 _) (by decide +kernel)
theorem d_Tp_isLetter_9 : decode b_Tp_isLetter 9 = .ok (.if_icmp .gt 7, 3) := dk_S2 a_Tp_isLetter_9 (dko_163 _) (by decide +kernel)
theorem d_Tp_isLetter_12 : decode b_Tp_isLetter 12 = .ok (.iconst 1, 1) := dk_0 a_Tp_isLetter_12 (dko_4 _)
theorem d_Tp_isLetter_13 : decode b_Tp_isLetter 13 = .ok (.goto 4, 3) := dk_S2 a_Tp_isLetter_13 (dko_167 _) (by decide +kernel)
theorem d_Tp_isLetter_16 : decode b_Tp_isLetter 16 = .ok (.iconst 0, 1) := dk_0 a_Tp_isLetter_16 (dko_3 _)
theorem d_Tp_isLetter_17 : decode b_Tp_isLetter 17 = .ok (.ireturn, 1) := dk_0 a_Tp_isLetter_17 (dko_172 _)
set_option maxHeartbeats 4000000 in
set_option maxRecDepth 100000 in
theorem ok_Tp_isLetter (pc : Nat) : OpS mt mi_Tp_isLetter pc (cs_Tp_isLetter pc) := (os_n (os_n (os_n (os_l (so_iload_n d_Tp_isLetter_0 rfl)) (os_l (so_bipush d_Tp_isLetter_1 (by decide)))) (os_n (os_l (so_iclt d_Tp_isLetter_3 (by decide))) (os_n (os_l (so_iload_n d_Tp_isLetter_6 rfl)) (os_l (so_bipush d_Tp_isLetter_7 (by decide)))))) (os_n (os_n (os_l (so_icgt d_Tp_isLetter_9 (by decide))) (os_l (so_iconst d_Tp_isLetter_12 (by decide)))) (os_n (os_l (so_goto d_Tp_isLetter_13 (by decide))) (os_n (os_l (so_iconst d_Tp_isLetter_16 (by decide))) (os_l (so_zreturn rfl d_Tp_isLetter_17))))))
abbrev t_Tp_isBlank_17 : List UInt8 := 172 :: []
abbrev t_Tp_isBlank_16 : List UInt8 := 3 :: t_Tp_isBlank_17
abbrev t_Tp_isBlank_13 : List UInt8 := 167 :: 0 :: 4 :: t_Tp_isBlank_16
abbrev t_Tp_isBlank_12 : List UInt8 := 4 :: t_Tp_isBlank_13
abbrev t_Tp_isBlank_9 : List UInt8 := 160 :: 0 :: 7 :: t_Tp_isBlank_12
abbrev t_Tp_isBlank_7 : List UInt8 := 16 :: 10 :: t_Tp_isBlank_9
abbrev t_Tp_isBlank_6 : List UInt8 := 26 :: t_Tp_isBlank_7
abbrev t_Tp_isBlank_3 : List UInt8 := 159 :: 0 :: 9 :: t_Tp_isBlank_6
abbrev t_Tp_isBlank_1 : List UInt8 := 16 :: 32 :: t_Tp_isBlank_3
abbrev t_Tp_isBlank_0 : List UInt8 := 26 :: t_Tp_isBlank_1
theorem a_Tp_isBlank_0 : dk_at b_Tp_isBlank 0 t_Tp_isBlank_0 := dk_start (by decide +kernel)
theorem a_Tp_isBlank_1 : dk_at b_Tp_isBlank 1 t_Tp_isBlank_1 := dk_go 1 a_Tp_isBlank_0 rfl
theorem a_Tp_isBlank_3 : dk_at b_Tp_isBlank 3 t_Tp_isBlank_3 := dk_go 2 a_Tp_isBlank_1 rfl
theorem a_Tp_isBlank_6 : dk_at b_Tp_isBlank 6 t_Tp_isBlank_6 := dk_go 3 a_Tp_isBlank_3 rfl
theorem a_Tp_isBlank_7 : dk_at b_Tp_isBlank 7 t_Tp_isBlank_7 := dk_go 1 a_Tp_isBlank_6 rfl
theorem a_Tp_isBlank_9 : dk_at b_Tp_isBlank 9 t_Tp_isBlank_9 := dk_go 2 a_Tp_isBlank_7 rfl
theorem a_Tp_isBlank_12 : dk_at b_Tp_isBlank 12 t_Tp_isBlank_12 := dk_go 3 a_Tp_isBlank_9 rfl
theorem a_Tp_isBlank_13 : dk_at b_Tp_isBlank 13 t_Tp_isBlank_13 := dk_go 1 a_Tp_isBlank_12 rfl
theorem a_Tp_isBlank_16 : dk_at b_Tp_isBlank 16 t_Tp_isBlank_16 := dk_go 3 a_Tp_isBlank_13 rfl
theorem a_Tp_isBlank_17 : dk_at b_Tp_isBlank 17 t_Tp_isBlank_17 := dk_go 1 a_Tp_isBlank_16 rfl
theorem d_Tp_isBlank_0 : decode b_Tp_isBlank 0 = .ok (.iload_n 0, 1) := dk_0 a_Tp_isBlank_0 (dko_26 _)
theorem d_Tp_isBlank_1 : decode b_Tp_isBlank 1 = .ok (.bipush 32, 2) := dk_S1 a_Tp_isBlank_1 (dko_16 _) (by decide +kernel)
theorem d_Tp_isBlank_3 : decode b_Tp_isBlank 3 = .ok (.if_icmp .eq 9, 3) := dk_S2 a_Tp_isBlank_3 (dko_159 _) (by decide +kernel)
theorem d_Tp_isBlank_6 : decode b_Tp_isBlank 6 = .ok (.iload_n 0, 1) := dk_0 a_Tp_isBlank_6 (dko_26 _)
theorem d_Tp_isBlank_7 : decode b_Tp_isBlank 7 = .ok (.bipush 10, 2) := dk_S1 a_Tp_isBlank_7 (dko_16 _) (by decide +kernel)
theorem d_Tp_isBlank_9 : decode b_Tp_isBlank 9 = .ok (.if_icmp .ne 7, 3) := dk_S2 a_Tp_isBlank_9 (dko_160 _) (by decide +kernel)
theorem d_Tp_isBlank_12 : decode b_Tp_isBlank 12 = .ok (.iconst 1, 1) := dk_0 a_Tp_isBlank_12 (dko_4 _)
theorem d_Tp_isBlank_13 : decode b_Tp_isBlank 13 = .ok (.goto 4, 3) := dk_S2 a_Tp_isBlank_13 (dko_167 _) (by decide +kernel)
theorem d_Tp_isBlank_16 : decode b_Tp_isBlank 16 = .ok (.iconst 0, 1) := dk_0 a_Tp_isBlank_16 (dko_3 _)
theorem d_Tp_isBlank_17 : decode b_Tp_isBlank 17 = .ok (.ireturn, 1) := dk_0 a_Tp_isBlank_17 (dko_172 _)
set_option maxHeartbeats 4000000 in
set_option maxRecDepth 100000 in
theorem ok_Tp_isBlank (pc : Nat) : OpS mt mi_Tp_isBlank pc (cs_Tp_isBlank pc) := (os_n (os_n (os_n (os_l (so_iload_n d_Tp_isBlank_0 rfl)) (os_l (so_bipush d_Tp_isBlank_1 (by decide)))) (os_n (os_l (so_iceq d_Tp_isBlank_3 (by decide))) (os_n (os_l (so_iload_n d_Tp_isBlank_6 rfl)) (os_l (so_bipush d_Tp_isBlank_7 (by decide)))))) (os_n (os_n (os_l (so_icne d_Tp_isBlank_9 (by decide))) (os_l (so_iconst d_Tp_isBlank_12 (by decide)))) (os_n (os_l (so_goto d_Tp_isBlank_13 (by decide))) (os_n (os_l (so_iconst d_Tp_isBlank_16 (by decide))) (os_l (so_zreturn rfl d_Tp_isBlank_17))))))
abbrev t_Tp_isText_35 : List UInt8 := 172 :: []
abbrev t_Tp_isText_34 : List UInt8 := 4 :: t_Tp_isText_35
abbrev t_Tp_isText_31 : List UInt8 := 167 :: 255 :: 227 :: t_Tp_isText_34
abbrev t_Tp_isText_28 : List UInt8 := 132 :: 1 :: 1 :: t_Tp_isText_31
abbrev t_Tp_isText_27 : List UInt8 := 172 :: t_Tp_isText_28
abbrev t_Tp_isText_26 : List UInt8 := 3 :: t_Tp_isText_27
abbrev t_Tp_isText_23 : List UInt8 := 164 :: 0 :: 5 :: t_Tp_isText_26
abbrev t_Tp_isText_21 : List UInt8 := 16 :: 127 :: t_Tp_isText_23
abbrev t_Tp_isText_20 : List UInt8 := 28 :: t_Tp_isText_21
abbrev t_Tp_isText_17 : List UInt8 := 158 :: 0 :: 9 :: t_Tp_isText_20
abbrev t_Tp_isText_16 : List UInt8 := 28 :: t_Tp_isText_17
abbrev t_Tp_isText_15 : List UInt8 := 61 :: t_Tp_isText_16
abbrev t_Tp_isText_12 : List UInt8 := 182 :: 0 :: 22 :: t_Tp_isText_15
abbrev t_Tp_isText_11 : List UInt8 := 27 :: t_Tp_isText_12
abbrev t_Tp_isText_10 : List UInt8 := 42 :: t_Tp_isText_11
abbrev t_Tp_isText_7 : List UInt8 := 162 :: 0 :: 27 :: t_Tp_isText_10
abbrev t_Tp_isText_4 : List UInt8 := 180 :: 0 :: 19 :: t_Tp_isText_7
abbrev t_Tp_isText_3 : List UInt8 := 42 :: t_Tp_isText_4
abbrev t_Tp_isText_2 : List UInt8 := 27 :: t_Tp_isText_3
abbrev t_Tp_isText_1 : List UInt8 := 60 :: t_Tp_isText_2
abbrev t_Tp_isText_0 : List UInt8 := 3 :: t_Tp_isText_1
theorem a_Tp_isText_0 : dk_at b_Tp_isText 0 t_Tp_isText_0 := dk_start (by decide +kernel)
theorem a_Tp_isText_1 : dk_at b_Tp_isText 1 t_Tp_isText_1 := dk_go 1 a_Tp_isText_0 rfl
theorem a_Tp_isText_2 : dk_at b_Tp_isText 2 t_Tp_isText_2 := dk_go 1 a_Tp_isText_1 rfl
theorem a_Tp_isText_3 : dk_at b_Tp_isText 3 t_Tp_isText_3 := dk_go 1 a_Tp_isText_2 rfl
theorem a_Tp_isText_4 : dk_at b_Tp_isText 4 t_Tp_isText_4 := dk_go 1 a_Tp_isText_3 rfl
theorem a_Tp_isText_7 : dk_at b_Tp_isText 7 t_Tp_isText_7 := dk_go 3 a_Tp_isText_4 rfl
theorem a_Tp_isText_10 : dk_at b_Tp_isText 10 t_Tp_isText_10 := dk_go 3 a_Tp_isText_7 rfl
theorem a_Tp_isText_11 : dk_at b_Tp_isText 11 t_Tp_isText_11 := dk_go 1 a_Tp_isText_10 rfl
theorem a_Tp_isText_12 : dk_at b_Tp_isText 12 t_Tp_isText_12 := dk_go 1 a_Tp_isText_11 rfl
theorem a_Tp_isText_15 : dk_at b_Tp_isText 15 t_Tp_isText_15 := dk_go 3 a_Tp_isText_12 rfl
theorem a_Tp_isText_16 : dk_at b_Tp_isText 16 t_Tp_isText_16 := dk_go 1 a_Tp_isText_15 rfl
theorem a_Tp_isText_17 : dk_at b_Tp_isText 17 t_Tp_isText_17 := dk_go 1 a_Tp_isText_16 rfl
theorem a_Tp_isText_20 : dk_at b_Tp_isText 20 t_Tp_isText_20 := dk_go 3 a_Tp_isText_17 rfl
theorem a_Tp_isText_21 : dk_at b_Tp_isText 21 t_Tp_isText_21 := dk_go 1 a_Tp_isText_20 rfl
theorem a_Tp_isText_23 : dk_at b_Tp_isText 23 t_Tp_isText_23 := dk_go 2 a_Tp_isText_21 rfl
theorem a_Tp_isText_26 : dk_at b_Tp_isText 26 t_Tp_isText_26 := dk_go 3 a_Tp_isText_23 rfl
theorem a_Tp_isText_27 : dk_at b_Tp_isText 27 t_Tp_isText_27 := dk_go 1 a_Tp_isText_26 rfl
theorem a_Tp_isText_28 : dk_at b_Tp_isText 28 t_Tp_isText_28 := dk_go 1 a_Tp_isText_27 rfl
theorem a_Tp_isText_31 : dk_at b_Tp_isText 31 t_Tp_isText_31 := dk_go 3 a_Tp_isText_28 rfl
theorem a_Tp_isText_34 : dk_at b_Tp_isText 34 t_Tp_isText_34 := dk_go 3 a_Tp_isText_31 rfl
theorem a_Tp_isText_35 : dk_at b_Tp_isText 35 t_Tp_isText_35 := dk_go 1 a_Tp_isText_34 rfl
theorem d_Tp_isText_0 : decode b_Tp_isText 0 = .ok (.iconst 0, 1) := dk_0 a_Tp_isText_0 (dko_3 _)
theorem d_Tp_isText_1 : decode b_Tp_isText 1 = .ok (.istore_n 1, 1) := dk_0 a_Tp_isText_1 (dko_60 _)
theorem d_Tp_isText_2 : decode b_Tp_isText 2 = .ok (.iload_n 1, 1) := dk_0 a_Tp_isText_2 (dko_27 _)
theorem d_Tp_isText_3 : decode b_Tp_isText 3 = .ok (.aload_n 0, 1) := dk_0 a_Tp_isText_3 (dko_42 _)
theorem d_Tp_isText_4 : decode b_Tp_isText 4 = .ok (.getfield 19, 3) := dk_U2 a_Tp_isText_4 (dko_180 _) rfl
theorem d_Tp_isText_7 : decode b_Tp_isText 7 = .ok (.if_icmp .ge 27, 3) := dk_S2 a_Tp_isText_7 (dko_162 _) (by decide +kernel)
theorem d_Tp_isText_10 : decode b_Tp_isText 10 = .ok (.aload_n 0, 1) := dk_0 a_Tp_isText_10 (dko_42 _)
theorem d_Tp_isText_11 : decode b_Tp_isText 11 = .ok (.iload_n 1, 1) := dk_0 a_Tp_isText_11 (dko_27 _)
theorem d_Tp_isText_12 : decode b_Tp_isText 12 = .ok (.invokevirtual 22, 3) := dk_U2 a_Tp_isText_12 (dko_182 _) rfl
theorem d_Tp_isText_15 : decode b_Tp_isText 15 = .ok (.istore_n 2, 1) := dk_0 a_Tp_isText_15 (dko_61 _)
theorem d_Tp_isText_16 : decode b_Tp_isText 16 = .ok (.iload_n 2, 1) := dk_0 a_Tp_isText_16 (dko_28 _)
theorem d_Tp_isText_17 : decode b_Tp_isText 17 = .ok (.ifCond .le 9, 3) := dk_S2 a_Tp_isText_17 (dko_158 _) (by decide +kernel)
theorem d_Tp_isText_20 : decode b_Tp_isText 20 = .ok (.iload_n 2, 1) := dk_0 a_Tp_isText_20 (dko_28 _)
theorem d_Tp_isText_21 : decode b_Tp_isText 21 = .ok (.bipush 127, 2) := dk_S1 a_Tp_isText_21 (dko_16 _) (by decide +kernel)
theorem d_Tp_isText_23 : decode b_Tp_isText 23 = .ok (.if_icmp .le 5, 3) := dk_S2 a_Tp_isText_23 (dko_164 _) (by decide +kernel)
theorem d_Tp_isText_26 : decode b_Tp_isText 26 = .ok (.iconst 0, 1) := dk_0 a_Tp_isText_26 (dko_3 _)
theorem d_Tp_isText_27 : decode b_Tp_isText 27 = .ok (.ireturn, 1) := dk_0 a_Tp_isText_27 (dko_172 _)
theorem d_Tp_isText_28 : decode b_Tp_isText 28 = .ok (.iinc 1 1, 3) := dk_US a_Tp_isText_28 (dko_132 _) (by decide +kernel)
theorem d_Tp_isText_31 : decode b_Tp_isText 31 = .ok (.goto (-29), 3) := dk_S2 a_Tp_isText_31 (dko_167 _) (by decide +kernel)
theorem d_Tp_isText_34 : decode b_Tp_isText 34 = .ok (.iconst 1, 1) := dk_0 a_Tp_isText_34 (dko_4 _)
theorem d_Tp_isText_35 : decode b_Tp_isText 35 = .ok (.ireturn, 1) := dk_0 a_Tp_isText_35 (dko_172 _)
set_option maxHeartbeats 4000000 in
set_option maxRecDepth 100000 in
theorem ok_Tp_isText (pc : Nat) : OpS mt mi_Tp_isText pc (cs_Tp_isText pc) := (os_n (os_n (os_n (os_n (os_l (so_iconst d_Tp_isText_0 (by decide))) (os_l (so_istore_n d_Tp_isText_1 rfl (by decide)))) (os_n (os_l (so_iload_n d_Tp_isText_2 rfl)) (os_n (os_l (so_aload_n d_Tp_isText_3 rfl)) (os_l (so_get (C := R_Tp) (T := F_Tp) (N := 3) (j := 2) in_Tp rfl (by decide) mw_43 d_Tp_isText_4))))) (os_n (os_n (os_l (so_icge d_Tp_isText_7 (by decide))) (os_l (so_aload_n d_Tp_isText_10 rfl))) (os_n (os_l (so_iload_n d_Tp_isText_11 rfl)) (os_n (os_l (so_callV (iv := mi_Tp_at) rfl rfl rfl mw_753 mw_754 mw_755 mw_2 mw_756 ⟨by decide +kernel, by decide +kernel, by decide +kernel⟩ (by decide) d_Tp_isText_12)) (os_l (so_istore_n d_Tp_isText_15 rfl (by decide))))))) (os_n (os_n (os_n (os_l (so_iload_n d_Tp_isText_16 rfl)) (os_l (so_ifle d_Tp_isText_17 (by decide)))) (os_n (os_l (so_iload_n d_Tp_isText_20 rfl)) (os_n (os_l (so_bipush d_Tp_isText_21 (by decide))) (os_l (so_icle d_Tp_isText_23 (by decide)))))) (os_n (os_n (os_l (so_iconst d_Tp_isText_26 (by decide))) (os_n (os_l (so_zreturn rfl d_Tp_isText_27)) (os_l (so_iinc d_Tp_isText_28 (by decide) (by decide))))) (os_n (os_l (so_goto d_Tp_isText_31 (by decide))) (os_n (os_l (so_iconst d_Tp_isText_34 (by decide))) (os_l (so_zreturn rfl d_Tp_isText_35)))))))
abbrev t_Wa_forget_34 : List UInt8 := 177 :: []
abbrev t_Wa_forget_31 : List UInt8 := 184 :: 0 :: 69 :: t_Wa_forget_34
abbrev t_Wa_forget_30 : List UInt8 := 3 :: t_Wa_forget_31
abbrev t_Wa_forget_27 : List UInt8 := 180 :: 0 :: 43 :: t_Wa_forget_30
abbrev t_Wa_forget_26 : List UInt8 := 42 :: t_Wa_forget_27
abbrev t_Wa_forget_23 : List UInt8 := 167 :: 255 :: 240 :: t_Wa_forget_26
abbrev t_Wa_forget_20 : List UInt8 := 132 :: 1 :: 1 :: t_Wa_forget_23
abbrev t_Wa_forget_19 : List UInt8 := 84 :: t_Wa_forget_20
abbrev t_Wa_forget_18 : List UInt8 := 3 :: t_Wa_forget_19
abbrev t_Wa_forget_17 : List UInt8 := 27 :: t_Wa_forget_18
abbrev t_Wa_forget_14 : List UInt8 := 180 :: 0 :: 39 :: t_Wa_forget_17
abbrev t_Wa_forget_13 : List UInt8 := 42 :: t_Wa_forget_14
abbrev t_Wa_forget_10 : List UInt8 := 162 :: 0 :: 16 :: t_Wa_forget_13
abbrev t_Wa_forget_8 : List UInt8 := 16 :: 24 :: t_Wa_forget_10
abbrev t_Wa_forget_7 : List UInt8 := 27 :: t_Wa_forget_8
abbrev t_Wa_forget_6 : List UInt8 := 60 :: t_Wa_forget_7
abbrev t_Wa_forget_5 : List UInt8 := 3 :: t_Wa_forget_6
abbrev t_Wa_forget_2 : List UInt8 := 181 :: 0 :: 65 :: t_Wa_forget_5
abbrev t_Wa_forget_1 : List UInt8 := 3 :: t_Wa_forget_2
abbrev t_Wa_forget_0 : List UInt8 := 42 :: t_Wa_forget_1
theorem a_Wa_forget_0 : dk_at b_Wa_forget 0 t_Wa_forget_0 := dk_start (by decide +kernel)
theorem a_Wa_forget_1 : dk_at b_Wa_forget 1 t_Wa_forget_1 := dk_go 1 a_Wa_forget_0 rfl
theorem a_Wa_forget_2 : dk_at b_Wa_forget 2 t_Wa_forget_2 := dk_go 1 a_Wa_forget_1 rfl
theorem a_Wa_forget_5 : dk_at b_Wa_forget 5 t_Wa_forget_5 := dk_go 3 a_Wa_forget_2 rfl
theorem a_Wa_forget_6 : dk_at b_Wa_forget 6 t_Wa_forget_6 := dk_go 1 a_Wa_forget_5 rfl
theorem a_Wa_forget_7 : dk_at b_Wa_forget 7 t_Wa_forget_7 := dk_go 1 a_Wa_forget_6 rfl
theorem a_Wa_forget_8 : dk_at b_Wa_forget 8 t_Wa_forget_8 := dk_go 1 a_Wa_forget_7 rfl
theorem a_Wa_forget_10 : dk_at b_Wa_forget 10 t_Wa_forget_10 := dk_go 2 a_Wa_forget_8 rfl
theorem a_Wa_forget_13 : dk_at b_Wa_forget 13 t_Wa_forget_13 := dk_go 3 a_Wa_forget_10 rfl
theorem a_Wa_forget_14 : dk_at b_Wa_forget 14 t_Wa_forget_14 := dk_go 1 a_Wa_forget_13 rfl
theorem a_Wa_forget_17 : dk_at b_Wa_forget 17 t_Wa_forget_17 := dk_go 3 a_Wa_forget_14 rfl
theorem a_Wa_forget_18 : dk_at b_Wa_forget 18 t_Wa_forget_18 := dk_go 1 a_Wa_forget_17 rfl
theorem a_Wa_forget_19 : dk_at b_Wa_forget 19 t_Wa_forget_19 := dk_go 1 a_Wa_forget_18 rfl
theorem a_Wa_forget_20 : dk_at b_Wa_forget 20 t_Wa_forget_20 := dk_go 1 a_Wa_forget_19 rfl
theorem a_Wa_forget_23 : dk_at b_Wa_forget 23 t_Wa_forget_23 := dk_go 3 a_Wa_forget_20 rfl
theorem a_Wa_forget_26 : dk_at b_Wa_forget 26 t_Wa_forget_26 := dk_go 3 a_Wa_forget_23 rfl
theorem a_Wa_forget_27 : dk_at b_Wa_forget 27 t_Wa_forget_27 := dk_go 1 a_Wa_forget_26 rfl
theorem a_Wa_forget_30 : dk_at b_Wa_forget 30 t_Wa_forget_30 := dk_go 3 a_Wa_forget_27 rfl
theorem a_Wa_forget_31 : dk_at b_Wa_forget 31 t_Wa_forget_31 := dk_go 1 a_Wa_forget_30 rfl
theorem a_Wa_forget_34 : dk_at b_Wa_forget 34 t_Wa_forget_34 := dk_go 3 a_Wa_forget_31 rfl
theorem d_Wa_forget_0 : decode b_Wa_forget 0 = .ok (.aload_n 0, 1) := dk_0 a_Wa_forget_0 (dko_42 _)
theorem d_Wa_forget_1 : decode b_Wa_forget 1 = .ok (.iconst 0, 1) := dk_0 a_Wa_forget_1 (dko_3 _)
theorem d_Wa_forget_2 : decode b_Wa_forget 2 = .ok (.putfield 65, 3) := dk_U2 a_Wa_forget_2 (dko_181 _) rfl
theorem d_Wa_forget_5 : decode b_Wa_forget 5 = .ok (.iconst 0, 1) := dk_0 a_Wa_forget_5 (dko_3 _)
theorem d_Wa_forget_6 : decode b_Wa_forget 6 = .ok (.istore_n 1, 1) := dk_0 a_Wa_forget_6 (dko_60 _)
theorem d_Wa_forget_7 : decode b_Wa_forget 7 = .ok (.iload_n 1, 1) := dk_0 a_Wa_forget_7 (dko_27 _)
theorem d_Wa_forget_8 : decode b_Wa_forget 8 = .ok (.bipush 24, 2) := dk_S1 a_Wa_forget_8 (dko_16 _) (by decide +kernel)
theorem d_Wa_forget_10 : decode b_Wa_forget 10 = .ok (.if_icmp .ge 16, 3) := dk_S2 a_Wa_forget_10 (dko_162 _) (by decide +kernel)
theorem d_Wa_forget_13 : decode b_Wa_forget 13 = .ok (.aload_n 0, 1) := dk_0 a_Wa_forget_13 (dko_42 _)
theorem d_Wa_forget_14 : decode b_Wa_forget 14 = .ok (.getfield 39, 3) := dk_U2 a_Wa_forget_14 (dko_180 _) rfl
theorem d_Wa_forget_17 : decode b_Wa_forget 17 = .ok (.iload_n 1, 1) := dk_0 a_Wa_forget_17 (dko_27 _)
theorem d_Wa_forget_18 : decode b_Wa_forget 18 = .ok (.iconst 0, 1) := dk_0 a_Wa_forget_18 (dko_3 _)
theorem d_Wa_forget_19 : decode b_Wa_forget 19 = .ok (.bastore, 1) := dk_0 a_Wa_forget_19 (dko_84 _)
theorem d_Wa_forget_20 : decode b_Wa_forget 20 = .ok (.iinc 1 1, 3) := dk_US a_Wa_forget_20 (dko_132 _) (by decide +kernel)
theorem d_Wa_forget_23 : decode b_Wa_forget 23 = .ok (.goto (-16), 3) := dk_S2 a_Wa_forget_23 (dko_167 _) (by decide +kernel)
theorem d_Wa_forget_26 : decode b_Wa_forget 26 = .ok (.aload_n 0, 1) := dk_0 a_Wa_forget_26 (dko_42 _)
theorem d_Wa_forget_27 : decode b_Wa_forget 27 = .ok (.getfield 43, 3) := dk_U2 a_Wa_forget_27 (dko_180 _) rfl
theorem d_Wa_forget_30 : decode b_Wa_forget 30 = .ok (.iconst 0, 1) := dk_0 a_Wa_forget_30 (dko_3 _)
theorem d_Wa_forget_31 : decode b_Wa_forget 31 = .ok (.invokestatic 69, 3) := dk_U2 a_Wa_forget_31 (dko_184 _) rfl
theorem d_Wa_forget_34 : decode b_Wa_forget 34 = .ok (.return_, 1) := dk_0 a_Wa_forget_34 (dko_177 _)
set_option maxHeartbeats 4000000 in
set_option maxRecDepth 100000 in
theorem ok_Wa_forget (pc : Nat) : OpS mt mi_Wa_forget pc (cs_Wa_forget pc) := (os_n (os_n (os_n (os_n (os_l (so_aload_n d_Wa_forget_0 rfl)) (os_l (so_iconst d_Wa_forget_1 (by decide)))) (os_n (os_l (so_putI (C := R_Wa) (T := F_Wa) (N := 18) (j := 1) in_Wa t_Wa_ok n_Wa rfl (by decide) mw_218 rfl (by decide +kernel) d_Wa_forget_2)) (os_n (os_l (so_iconst d_Wa_forget_5 (by decide))) (os_l (so_istore_n d_Wa_forget_6 rfl (by decide)))))) (os_n (os_n (os_l (so_iload_n d_Wa_forget_7 rfl)) (os_l (so_bipush d_Wa_forget_8 (by decide)))) (os_n (os_l (so_icge d_Wa_forget_10 (by decide))) (os_n (os_l (so_aload_n d_Wa_forget_13 rfl)) (os_l (so_get (C := R_Wa) (T := F_Wa) (N := 18) (j := 11) in_Wa rfl (by decide) mw_229 d_Wa_forget_14)))))) (os_n (os_n (os_n (os_l (so_iload_n d_Wa_forget_17 rfl)) (os_l (so_iconst d_Wa_forget_18 (by decide)))) (os_n (os_l (so_bastore d_Wa_forget_19)) (os_n (os_l (so_iinc d_Wa_forget_20 (by decide) (by decide))) (os_l (so_goto d_Wa_forget_23 (by decide)))))) (os_n (os_n (os_l (so_aload_n d_Wa_forget_26 rfl)) (os_l (so_get (C := R_Wa) (T := F_Wa) (N := 18) (j := 12) in_Wa rfl (by decide) mw_230 d_Wa_forget_27))) (os_n (os_l (so_iconst d_Wa_forget_30 (by decide))) (os_n (os_l (so_callS (iv := mi_Ar_fill0) rfl mw_1027 mw_146 mw_6 mw_147 ⟨by decide +kernel, by decide +kernel, by decide +kernel⟩ (by decide) d_Wa_forget_31)) (os_l (so_return rfl d_Wa_forget_34)))))))
abbrev t_Wa_get_103 : List UInt8 := 172 :: []
abbrev t_Wa_get_102 : List UInt8 := 29 :: t_Wa_get_103
abbrev t_Wa_get_99 : List UInt8 := 167 :: 255 :: 236 :: t_Wa_get_102
abbrev t_Wa_get_96 : List UInt8 := 132 :: 4 :: 1 :: t_Wa_get_99
abbrev t_Wa_get_95 : List UInt8 := 62 :: t_Wa_get_96
abbrev t_Wa_get_94 : List UInt8 := 46 :: t_Wa_get_95
abbrev t_Wa_get_93 : List UInt8 := 29 :: t_Wa_get_94
abbrev t_Wa_get_90 : List UInt8 := 180 :: 0 :: 36 :: t_Wa_get_93
abbrev t_Wa_get_89 : List UInt8 := 42 :: t_Wa_get_90
abbrev t_Wa_get_86 : List UInt8 := 155 :: 0 :: 16 :: t_Wa_get_89
abbrev t_Wa_get_85 : List UInt8 := 29 :: t_Wa_get_86
abbrev t_Wa_get_82 : List UInt8 := 162 :: 0 :: 20 :: t_Wa_get_85
abbrev t_Wa_get_81 : List UInt8 := 28 :: t_Wa_get_82
abbrev t_Wa_get_79 : List UInt8 := 21 :: 4 :: t_Wa_get_81
abbrev t_Wa_get_77 : List UInt8 := 54 :: 4 :: t_Wa_get_79
abbrev t_Wa_get_76 : List UInt8 := 6 :: t_Wa_get_77
abbrev t_Wa_get_75 : List UInt8 := 62 :: t_Wa_get_76
abbrev t_Wa_get_74 : List UInt8 := 46 :: t_Wa_get_75
abbrev t_Wa_get_73 : List UInt8 := 27 :: t_Wa_get_74
abbrev t_Wa_get_70 : List UInt8 := 180 :: 0 :: 27 :: t_Wa_get_73
abbrev t_Wa_get_69 : List UInt8 := 42 :: t_Wa_get_70
abbrev t_Wa_get_68 : List UInt8 := 172 :: t_Wa_get_69
abbrev t_Wa_get_67 : List UInt8 := 46 :: t_Wa_get_68
abbrev t_Wa_get_66 : List UInt8 := 27 :: t_Wa_get_67
abbrev t_Wa_get_63 : List UInt8 := 180 :: 0 :: 24 :: t_Wa_get_66
abbrev t_Wa_get_62 : List UInt8 := 42 :: t_Wa_get_63
abbrev t_Wa_get_59 : List UInt8 := 167 :: 0 :: 9 :: t_Wa_get_62
abbrev t_Wa_get_58 : List UInt8 := 46 :: t_Wa_get_59
abbrev t_Wa_get_57 : List UInt8 := 27 :: t_Wa_get_58
abbrev t_Wa_get_54 : List UInt8 := 180 :: 0 :: 15 :: t_Wa_get_57
abbrev t_Wa_get_53 : List UInt8 := 42 :: t_Wa_get_54
abbrev t_Wa_get_50 : List UInt8 := 160 :: 0 :: 12 :: t_Wa_get_53
abbrev t_Wa_get_49 : List UInt8 := 4 :: t_Wa_get_50
abbrev t_Wa_get_48 : List UInt8 := 28 :: t_Wa_get_49
abbrev t_Wa_get_45 : List UInt8 := 167 :: 0 :: 23 :: t_Wa_get_48
abbrev t_Wa_get_44 : List UInt8 := 46 :: t_Wa_get_45
abbrev t_Wa_get_43 : List UInt8 := 27 :: t_Wa_get_44
abbrev t_Wa_get_40 : List UInt8 := 180 :: 0 :: 9 :: t_Wa_get_43
abbrev t_Wa_get_39 : List UInt8 := 42 :: t_Wa_get_40
abbrev t_Wa_get_36 : List UInt8 := 154 :: 0 :: 12 :: t_Wa_get_39
abbrev t_Wa_get_35 : List UInt8 := 28 :: t_Wa_get_36
abbrev t_Wa_get_32 : List UInt8 := 162 :: 0 :: 37 :: t_Wa_get_35
abbrev t_Wa_get_31 : List UInt8 := 6 :: t_Wa_get_32
abbrev t_Wa_get_30 : List UInt8 := 28 :: t_Wa_get_31
abbrev t_Wa_get_29 : List UInt8 := 172 :: t_Wa_get_30
abbrev t_Wa_get_28 : List UInt8 := 2 :: t_Wa_get_29
abbrev t_Wa_get_25 : List UInt8 := 161 :: 0 :: 5 :: t_Wa_get_28
abbrev t_Wa_get_24 : List UInt8 := 96 :: t_Wa_get_25
abbrev t_Wa_get_23 : List UInt8 := 46 :: t_Wa_get_24
abbrev t_Wa_get_22 : List UInt8 := 27 :: t_Wa_get_23
abbrev t_Wa_get_19 : List UInt8 := 180 :: 0 :: 24 :: t_Wa_get_22
abbrev t_Wa_get_18 : List UInt8 := 42 :: t_Wa_get_19
abbrev t_Wa_get_17 : List UInt8 := 6 :: t_Wa_get_18
abbrev t_Wa_get_16 : List UInt8 := 28 :: t_Wa_get_17
abbrev t_Wa_get_13 : List UInt8 := 155 :: 0 :: 15 :: t_Wa_get_16
abbrev t_Wa_get_12 : List UInt8 := 28 :: t_Wa_get_13
abbrev t_Wa_get_9 : List UInt8 := 162 :: 0 :: 19 :: t_Wa_get_12
abbrev t_Wa_get_6 : List UInt8 := 180 :: 0 :: 65 :: t_Wa_get_9
abbrev t_Wa_get_5 : List UInt8 := 42 :: t_Wa_get_6
abbrev t_Wa_get_4 : List UInt8 := 27 :: t_Wa_get_5
abbrev t_Wa_get_1 : List UInt8 := 155 :: 0 :: 27 :: t_Wa_get_4
abbrev t_Wa_get_0 : List UInt8 := 27 :: t_Wa_get_1
theorem a_Wa_get_0 : dk_at b_Wa_get 0 t_Wa_get_0 := dk_start (by decide +kernel)
theorem a_Wa_get_1 : dk_at b_Wa_get 1 t_Wa_get_1 := dk_go 1 a_Wa_get_0 rfl
theorem a_Wa_get_4 : dk_at b_Wa_get 4 t_Wa_get_4 := dk_go 3 a_Wa_get_1 rfl
theorem a_Wa_get_5 : dk_at b_Wa_get 5 t_Wa_get_5 := dk_go 1 a_Wa_get_4 rfl
theorem a_Wa_get_6 : dk_at b_Wa_get 6 t_Wa_get_6 := dk_go 1 a_Wa_get_5 rfl
theorem a_Wa_get_9 : dk_at b_Wa_get 9 t_Wa_get_9 := dk_go 3 a_Wa_get_6 rfl
theorem a_Wa_get_12 : dk_at b_Wa_get 12 t_Wa_get_12 := dk_go 3 a_Wa_get_9 rfl
theorem a_Wa_get_13 : dk_at b_Wa_get 13 t_Wa_get_13 := dk_go 1 a_Wa_get_12 rfl
theorem a_Wa_get_16 : dk_at b_Wa_get 16 t_Wa_get_16 := dk_go 3 a_Wa_get_13 rfl
theorem a_Wa_get_17 : dk_at b_Wa_get 17 t_Wa_get_17 := dk_go 1 a_Wa_get_16 rfl
theorem a_Wa_get_18 : dk_at b_Wa_get 18 t_Wa_get_18 := dk_go 1 a_Wa_get_17 rfl
theorem a_Wa_get_19 : dk_at b_Wa_get 19 t_Wa_get_19 := dk_go 1 a_Wa_get_18 rfl
theorem a_Wa_get_22 : dk_at b_Wa_get 22 t_Wa_get_22 := dk_go 3 a_Wa_get_19 rfl
theorem a_Wa_get_23 : dk_at b_Wa_get 23 t_Wa_get_23 := dk_go 1 a_Wa_get_22 rfl
theorem a_Wa_get_24 : dk_at b_Wa_get 24 t_Wa_get_24 := dk_go 1 a_Wa_get_23 rfl
theorem a_Wa_get_25 : dk_at b_Wa_get 25 t_Wa_get_25 := dk_go 1 a_Wa_get_24 rfl
theorem a_Wa_get_28 : dk_at b_Wa_get 28 t_Wa_get_28 := dk_go 3 a_Wa_get_25 rfl
theorem a_Wa_get_29 : dk_at b_Wa_get 29 t_Wa_get_29 := dk_go 1 a_Wa_get_28 rfl
theorem a_Wa_get_30 : dk_at b_Wa_get 30 t_Wa_get_30 := dk_go 1 a_Wa_get_29 rfl
theorem a_Wa_get_31 : dk_at b_Wa_get 31 t_Wa_get_31 := dk_go 1 a_Wa_get_30 rfl
theorem a_Wa_get_32 : dk_at b_Wa_get 32 t_Wa_get_32 := dk_go 1 a_Wa_get_31 rfl
theorem a_Wa_get_35 : dk_at b_Wa_get 35 t_Wa_get_35 := dk_go 3 a_Wa_get_32 rfl
theorem a_Wa_get_36 : dk_at b_Wa_get 36 t_Wa_get_36 := dk_go 1 a_Wa_get_35 rfl
theorem a_Wa_get_39 : dk_at b_Wa_get 39 t_Wa_get_39 := dk_go 3 a_Wa_get_36 rfl
theorem a_Wa_get_40 : dk_at b_Wa_get 40 t_Wa_get_40 := dk_go 1 a_Wa_get_39 rfl
theorem a_Wa_get_43 : dk_at b_Wa_get 43 t_Wa_get_43 := dk_go 3 a_Wa_get_40 rfl
theorem a_Wa_get_44 : dk_at b_Wa_get 44 t_Wa_get_44 := dk_go 1 a_Wa_get_43 rfl
theorem a_Wa_get_45 : dk_at b_Wa_get 45 t_Wa_get_45 := dk_go 1 a_Wa_get_44 rfl
theorem a_Wa_get_48 : dk_at b_Wa_get 48 t_Wa_get_48 := dk_go 3 a_Wa_get_45 rfl
theorem a_Wa_get_49 : dk_at b_Wa_get 49 t_Wa_get_49 := dk_go 1 a_Wa_get_48 rfl
theorem a_Wa_get_50 : dk_at b_Wa_get 50 t_Wa_get_50 := dk_go 1 a_Wa_get_49 rfl
theorem a_Wa_get_53 : dk_at b_Wa_get 53 t_Wa_get_53 := dk_go 3 a_Wa_get_50 rfl
theorem a_Wa_get_54 : dk_at b_Wa_get 54 t_Wa_get_54 := dk_go 1 a_Wa_get_53 rfl
theorem a_Wa_get_57 : dk_at b_Wa_get 57 t_Wa_get_57 := dk_go 3 a_Wa_get_54 rfl
theorem a_Wa_get_58 : dk_at b_Wa_get 58 t_Wa_get_58 := dk_go 1 a_Wa_get_57 rfl
theorem a_Wa_get_59 : dk_at b_Wa_get 59 t_Wa_get_59 := dk_go 1 a_Wa_get_58 rfl
theorem a_Wa_get_62 : dk_at b_Wa_get 62 t_Wa_get_62 := dk_go 3 a_Wa_get_59 rfl
theorem a_Wa_get_63 : dk_at b_Wa_get 63 t_Wa_get_63 := dk_go 1 a_Wa_get_62 rfl
theorem a_Wa_get_66 : dk_at b_Wa_get 66 t_Wa_get_66 := dk_go 3 a_Wa_get_63 rfl
theorem a_Wa_get_67 : dk_at b_Wa_get 67 t_Wa_get_67 := dk_go 1 a_Wa_get_66 rfl
theorem a_Wa_get_68 : dk_at b_Wa_get 68 t_Wa_get_68 := dk_go 1 a_Wa_get_67 rfl
theorem a_Wa_get_69 : dk_at b_Wa_get 69 t_Wa_get_69 := dk_go 1 a_Wa_get_68 rfl
theorem a_Wa_get_70 : dk_at b_Wa_get 70 t_Wa_get_70 := dk_go 1 a_Wa_get_69 rfl
theorem a_Wa_get_73 : dk_at b_Wa_get 73 t_Wa_get_73 := dk_go 3 a_Wa_get_70 rfl
theorem a_Wa_get_74 : dk_at b_Wa_get 74 t_Wa_get_74 := dk_go 1 a_Wa_get_73 rfl
theorem a_Wa_get_75 : dk_at b_Wa_get 75 t_Wa_get_75 := dk_go 1 a_Wa_get_74 rfl
theorem a_Wa_get_76 : dk_at b_Wa_get 76 t_Wa_get_76 := dk_go 1 a_Wa_get_75 rfl
theorem a_Wa_get_77 : dk_at b_Wa_get 77 t_Wa_get_77 := dk_go 1 a_Wa_get_76 rfl
theorem a_Wa_get_79 : dk_at b_Wa_get 79 t_Wa_get_79 := dk_go 2 a_Wa_get_77 rfl
theorem a_Wa_get_81 : dk_at b_Wa_get 81 t_Wa_get_81 := dk_go 2 a_Wa_get_79 rfl
theorem a_Wa_get_82 : dk_at b_Wa_get 82 t_Wa_get_82 := dk_go 1 a_Wa_get_81 rfl
theorem a_Wa_get_85 : dk_at b_Wa_get 85 t_Wa_get_85 := dk_go 3 a_Wa_get_82 rfl
theorem a_Wa_get_86 : dk_at b_Wa_get 86 t_Wa_get_86 := dk_go 1 a_Wa_get_85 rfl
theorem a_Wa_get_89 : dk_at b_Wa_get 89 t_Wa_get_89 := dk_go 3 a_Wa_get_86 rfl
theorem a_Wa_get_90 : dk_at b_Wa_get 90 t_Wa_get_90 := dk_go 1 a_Wa_get_89 rfl
theorem a_Wa_get_93 : dk_at b_Wa_get 93 t_Wa_get_93 := dk_go 3 a_Wa_get_90 rfl
theorem a_Wa_get_94 : dk_at b_Wa_get 94 t_Wa_get_94 := dk_go 1 a_Wa_get_93 rfl
theorem a_Wa_get_95 : dk_at b_Wa_get 95 t_Wa_get_95 := dk_go 1 a_Wa_get_94 rfl
theorem a_Wa_get_96 : dk_at b_Wa_get 96 t_Wa_get_96 := dk_go 1 a_Wa_get_95 rfl
theorem a_Wa_get_99 : dk_at b_Wa_get 99 t_Wa_get_99 := dk_go 3 a_Wa_get_96 rfl
theorem a_Wa_get_102 : dk_at b_Wa_get 102 t_Wa_get_102 := dk_go 3 a_Wa_get_99 rfl
theorem a_Wa_get_103 : dk_at b_Wa_get 103 t_Wa_get_103 := dk_go 1 a_Wa_get_102 rfl
theorem d_Wa_get_0 : decode b_Wa_get 0 = .ok (.iload_n 1, 1) := dk_0 a_Wa_get_0 (dko_27 _)
theorem d_Wa_get_1 : decode b_Wa_get 1 = .ok (.ifCond .lt 27, 3) := dk_S2 a_Wa_get_1 (dko_155 _) (by decide +kernel)
theorem d_Wa_get_4 : decode b_Wa_get 4 = .ok (.iload_n 1, 1) := dk_0 a_Wa_get_4 (dko_27 _)
theorem d_Wa_get_5 : decode b_Wa_get 5 = .ok (.aload_n 0, 1) := dk_0 a_Wa_get_5 (dko_42 _)
theorem d_Wa_get_6 : decode b_Wa_get 6 = .ok (.getfield 65, 3) := dk_U2 a_Wa_get_6 (dko_180 _) rfl
theorem d_Wa_get_9 : decode b_Wa_get 9 = .ok (.if_icmp .ge 19, 3) := dk_S2 a_Wa_get_9 (dko_162 _) (by decide +kernel)
theorem d_Wa_get_12 : decode b_Wa_get 12 = .ok (.iload_n 2, 1) := dk_0 a_Wa_get_12 (dko_28 _)
theorem d_Wa_get_13 : decode b_Wa_get 13 = .ok (.ifCond .lt 15, 3) := dk_S2 a_Wa_get_13 (dko_155 _) (by decide +kernel)
theorem d_Wa_get_16 : decode b_Wa_get 16 = .ok (.iload_n 2, 1) := dk_0 a_Wa_get_16 (dko_28 _)
theorem d_Wa_get_17 : decode b_Wa_get 17 = .ok (.iconst 3, 1) := dk_0 a_Wa_get_17 (dko_6 _)
theorem d_Wa_get_18 : decode b_Wa_get 18 = .ok (.aload_n 0, 1) := dk_0 a_Wa_get_18 (dko_42 _)
theorem d_Wa_get_19 : decode b_Wa_get 19 = .ok (.getfield 24, 3) := dk_U2 a_Wa_get_19 (dko_180 _) rfl
theorem d_Wa_get_22 : decode b_Wa_get 22 = .ok (.iload_n 1, 1) := dk_0 a_Wa_get_22 (dko_27 _)
theorem d_Wa_get_23 : decode b_Wa_get 23 = .ok (.iaload, 1) := dk_0 a_Wa_get_23 (dko_46 _)
theorem d_Wa_get_24 : decode b_Wa_get 24 = .ok (.iadd, 1) := dk_0 a_Wa_get_24 (dko_96 _)
theorem d_Wa_get_25 : decode b_Wa_get 25 = .ok (.if_icmp .lt 5, 3) := dk_S2 a_Wa_get_25 (dko_161 _) (by decide +kernel)
theorem d_Wa_get_28 : decode b_Wa_get 28 = .ok (.iconst (-1), 1) := dk_0 a_Wa_get_28 (dko_2 _)
theorem d_Wa_get_29 : decode b_Wa_get 29 = .ok (.ireturn, 1) := dk_0 a_Wa_get_29 (dko_172 _)
theorem d_Wa_get_30 : decode b_Wa_get 30 = .ok (.iload_n 2, 1) := dk_0 a_Wa_get_30 (dko_28 _)
theorem d_Wa_get_31 : decode b_Wa_get 31 = .ok (.iconst 3, 1) := dk_0 a_Wa_get_31 (dko_6 _)
theorem d_Wa_get_32 : decode b_Wa_get 32 = .ok (.if_icmp .ge 37, 3) := dk_S2 a_Wa_get_32 (dko_162 _) (by decide +kernel)
theorem d_Wa_get_35 : decode b_Wa_get 35 = .ok (.iload_n 2, 1) := dk_0 a_Wa_get_35 (dko_28 _)
theorem d_Wa_get_36 : decode b_Wa_get 36 = .ok (.ifCond .ne 12, 3) := dk_S2 a_Wa_get_36 (dko_154 _) (by decide +kernel)
theorem d_Wa_get_39 : decode b_Wa_get 39 = .ok (.aload_n 0, 1) := dk_0 a_Wa_get_39 (dko_42 _)
theorem d_Wa_get_40 : decode b_Wa_get 40 = .ok (.getfield 9, 3) := dk_U2 a_Wa_get_40 (dko_180 _) rfl
theorem d_Wa_get_43 : decode b_Wa_get 43 = .ok (.iload_n 1, 1) := dk_0 a_Wa_get_43 (dko_27 _)
theorem d_Wa_get_44 : decode b_Wa_get 44 = .ok (.iaload, 1) := dk_0 a_Wa_get_44 (dko_46 _)
theorem d_Wa_get_45 : decode b_Wa_get 45 = .ok (.goto 23, 3) := dk_S2 a_Wa_get_45 (dko_167 _) (by decide +kernel)
theorem d_Wa_get_48 : decode b_Wa_get 48 = .ok (.iload_n 2, 1) := dk_0 a_Wa_get_48 (dko_28 _)
theorem d_Wa_get_49 : decode b_Wa_get 49 = .ok (.iconst 1, 1) := dk_0 a_Wa_get_49 (dko_4 _)
theorem d_Wa_get_50 : decode b_Wa_get 50 = .ok (.if_icmp .ne 12, 3) := dk_S2 a_Wa_get_50 (dko_160 _) (by decide +kernel)
theorem d_Wa_get_53 : decode b_Wa_get 53 = .ok (.aload_n 0, 1) := dk_0 a_Wa_get_53 (dko_42 _)
theorem d_Wa_get_54 : decode b_Wa_get 54 = .ok (.getfield 15, 3) := dk_U2 a_Wa_get_54 (dko_180 _) rfl
theorem d_Wa_get_57 : decode b_Wa_get 57 = .ok (.iload_n 1, 1) := dk_0 a_Wa_get_57 (dko_27 _)
theorem d_Wa_get_58 : decode b_Wa_get 58 = .ok (.iaload, 1) := dk_0 a_Wa_get_58 (dko_46 _)
theorem d_Wa_get_59 : decode b_Wa_get 59 = .ok (.goto 9, 3) := dk_S2 a_Wa_get_59 (dko_167 _) (by decide +kernel)
theorem d_Wa_get_62 : decode b_Wa_get 62 = .ok (.aload_n 0, 1) := dk_0 a_Wa_get_62 (dko_42 _)
theorem d_Wa_get_63 : decode b_Wa_get 63 = .ok (.getfield 24, 3) := dk_U2 a_Wa_get_63 (dko_180 _) rfl
theorem d_Wa_get_66 : decode b_Wa_get 66 = .ok (.iload_n 1, 1) := dk_0 a_Wa_get_66 (dko_27 _)
theorem d_Wa_get_67 : decode b_Wa_get 67 = .ok (.iaload, 1) := dk_0 a_Wa_get_67 (dko_46 _)
theorem d_Wa_get_68 : decode b_Wa_get 68 = .ok (.ireturn, 1) := dk_0 a_Wa_get_68 (dko_172 _)
theorem d_Wa_get_69 : decode b_Wa_get 69 = .ok (.aload_n 0, 1) := dk_0 a_Wa_get_69 (dko_42 _)
theorem d_Wa_get_70 : decode b_Wa_get 70 = .ok (.getfield 27, 3) := dk_U2 a_Wa_get_70 (dko_180 _) rfl
theorem d_Wa_get_73 : decode b_Wa_get 73 = .ok (.iload_n 1, 1) := dk_0 a_Wa_get_73 (dko_27 _)
theorem d_Wa_get_74 : decode b_Wa_get 74 = .ok (.iaload, 1) := dk_0 a_Wa_get_74 (dko_46 _)
theorem d_Wa_get_75 : decode b_Wa_get 75 = .ok (.istore_n 3, 1) := dk_0 a_Wa_get_75 (dko_62 _)
theorem d_Wa_get_76 : decode b_Wa_get 76 = .ok (.iconst 3, 1) := dk_0 a_Wa_get_76 (dko_6 _)
theorem d_Wa_get_77 : decode b_Wa_get 77 = .ok (.istore 4, 2) := dk_U1 a_Wa_get_77 (dko_54 _) rfl
theorem d_Wa_get_79 : decode b_Wa_get 79 = .ok (.iload 4, 2) := dk_U1 a_Wa_get_79 (dko_21 _) rfl
theorem d_Wa_get_81 : decode b_Wa_get 81 = .ok (.iload_n 2, 1) := dk_0 a_Wa_get_81 (dko_28 _)
theorem d_Wa_get_82 : decode b_Wa_get 82 = .ok (.if_icmp .ge 20, 3) := dk_S2 a_Wa_get_82 (dko_162 _) (by decide +kernel)
theorem d_Wa_get_85 : decode b_Wa_get 85 = .ok (.iload_n 3, 1) := dk_0 a_Wa_get_85 (dko_29 _)
theorem d_Wa_get_86 : decode b_Wa_get 86 = .ok (.ifCond .lt 16, 3) := dk_S2 a_Wa_get_86 (dko_155 _) (by decide +kernel)
theorem d_Wa_get_89 : decode b_Wa_get 89 = .ok (.aload_n 0, 1) := dk_0 a_Wa_get_89 (dko_42 _)
theorem d_Wa_get_90 : decode b_Wa_get 90 = .ok (.getfield 36, 3) := dk_U2 a_Wa_get_90 (dko_180 _) rfl
theorem d_Wa_get_93 : decode b_Wa_get 93 = .ok (.iload_n 3, 1) := dk_0 a_Wa_get_93 (dko_29 _)
theorem d_Wa_get_94 : decode b_Wa_get 94 = .ok (.iaload, 1) := dk_0 a_Wa_get_94 (dko_46 _)
theorem d_Wa_get_95 : decode b_Wa_get 95 = .ok (.istore_n 3, 1) := dk_0 a_Wa_get_95 (dko_62 _)
theorem d_Wa_get_96 : decode b_Wa_get 96 = .ok (.iinc 4 1, 3) := dk_US a_Wa_get_96 (dko_132 _) (by decide +kernel)
theorem d_Wa_get_99 : decode b_Wa_get 99 = .ok (.goto (-20), 3) := dk_S2 a_Wa_get_99 (dko_167 _) (by decide +kernel)
theorem d_Wa_get_102 : decode b_Wa_get 102 = .ok (.iload_n 3, 1) := dk_0 a_Wa_get_102 (dko_29 _)
theorem d_Wa_get_103 : decode b_Wa_get 103 = .ok (.ireturn, 1) := dk_0 a_Wa_get_103 (dko_172 _)
set_option maxHeartbeats 4000000 in
set_option maxRecDepth 100000 in
theorem ok_Wa_get (pc : Nat) : OpS mt mi_Wa_get pc (cs_Wa_get pc) := (os_n (os_n (os_n (os_n (os_n (os_l (so_iload_n d_Wa_get_0 rfl)) (os_n (os_l (so_iflt d_Wa_get_1 (by decide))) (os_l (so_iload_n d_Wa_get_4 rfl)))) (os_n (os_n (os_l (so_aload_n d_Wa_get_5 rfl)) (os_l (so_get (C := R_Wa) (T := F_Wa) (N := 18) (j := 1) in_Wa rfl (by decide) mw_218 d_Wa_get_6))) (os_n (os_l (so_icge d_Wa_get_9 (by decide))) (os_l (so_iload_n d_Wa_get_12 rfl))))) (os_n (os_n (os_n (os_l (so_iflt d_Wa_get_13 (by decide))) (os_l (so_iload_n d_Wa_get_16 rfl))) (os_n (os_l (so_iconst d_Wa_get_17 (by decide))) (os_l (so_aload_n d_Wa_get_18 rfl)))) (os_n (os_n (os_l (so_get (C := R_Wa) (T := F_Wa) (N := 18) (j := 6) in_Wa rfl (by decide) mw_224 d_Wa_get_19)) (os_l (so_iload_n d_Wa_get_22 rfl))) (os_n (os_l (so_iaload d_Wa_get_23)) (os_l (so_iadd d_Wa_get_24)))))) (os_n (os_n (os_n (os_n (os_l (so_iclt d_Wa_get_25 (by decide))) (os_l (so_iconst d_Wa_get_28 (by decide)))) (os_n (os_l (so_ireturn rfl d_Wa_get_29)) (os_l (so_iload_n d_Wa_get_30 rfl)))) (os_n (os_n (os_l (so_iconst d_Wa_get_31 (by decide))) (os_l (so_icge d_Wa_get_32 (by decide)))) (os_n (os_l (so_iload_n d_Wa_get_35 rfl)) (os_l (so_ifne d_Wa_get_36 (by decide)))))) (os_n (os_n (os_n (os_l (so_aload_n d_Wa_get_39 rfl)) (os_l (so_get (C := R_Wa) (T := F_Wa) (N := 18) (j := 2) in_Wa rfl (by decide) mw_220 d_Wa_get_40))) (os_n (os_l (so_iload_n d_Wa_get_43 rfl)) (os_l (so_iaload d_Wa_get_44)))) (os_n (os_n (os_l (so_goto d_Wa_get_45 (by decide))) (os_l (so_iload_n d_Wa_get_48 rfl))) (os_n (os_l (so_iconst d_Wa_get_49 (by decide))) (os_l (so_icne d_Wa_get_50 (by decide)))))))) (os_n (os_n (os_n (os_n (os_l (so_aload_n d_Wa_get_53 rfl)) (os_n (os_l (so_get (C := R_Wa) (T := F_Wa) (N := 18) (j := 3) in_Wa rfl (by decide) mw_221 d_Wa_get_54)) (os_l (so_iload_n d_Wa_get_57 rfl)))) (os_n (os_n (os_l (so_iaload d_Wa_get_58)) (os_l (so_goto d_Wa_get_59 (by decide)))) (os_n (os_l (so_aload_n d_Wa_get_62 rfl)) (os_l (so_get (C := R_Wa) (T := F_Wa) (N := 18) (j := 6) in_Wa rfl (by decide) mw_224 d_Wa_get_63))))) (os_n (os_n (os_n (os_l (so_iload_n d_Wa_get_66 rfl)) (os_l (so_iaload d_Wa_get_67))) (os_n (os_l (so_ireturn rfl d_Wa_get_68)) (os_l (so_aload_n d_Wa_get_69 rfl)))) (os_n (os_n (os_l (so_get (C := R_Wa) (T := F_Wa) (N := 18) (j := 7) in_Wa rfl (by decide) mw_225 d_Wa_get_70)) (os_l (so_iload_n d_Wa_get_73 rfl))) (os_n (os_l (so_iaload d_Wa_get_74)) (os_l (so_istore_n d_Wa_get_75 rfl (by decide))))))) (os_n (os_n (os_n (os_n (os_l (so_iconst d_Wa_get_76 (by decide))) (os_l (so_istore d_Wa_get_77 (by decide)))) (os_n (os_l (so_iload d_Wa_get_79)) (os_l (so_iload_n d_Wa_get_81 rfl)))) (os_n (os_n (os_l (so_icge d_Wa_get_82 (by decide))) (os_l (so_iload_n d_Wa_get_85 rfl))) (os_n (os_l (so_iflt d_Wa_get_86 (by decide))) (os_l (so_aload_n d_Wa_get_89 rfl))))) (os_n (os_n (os_n (os_l (so_get (C := R_Wa) (T := F_Wa) (N := 18) (j := 10) in_Wa rfl (by decide) mw_228 d_Wa_get_90)) (os_l (so_iload_n d_Wa_get_93 rfl))) (os_n (os_l (so_iaload d_Wa_get_94)) (os_l (so_istore_n d_Wa_get_95 rfl (by decide))))) (os_n (os_n (os_l (so_iinc d_Wa_get_96 (by decide) (by decide))) (os_l (so_goto d_Wa_get_99 (by decide)))) (os_n (os_l (so_iload_n d_Wa_get_102 rfl)) (os_l (so_ireturn rfl d_Wa_get_103))))))))
abbrev t_Wa_indexOf_39 : List UInt8 := 172 :: []
abbrev t_Wa_indexOf_38 : List UInt8 := 2 :: t_Wa_indexOf_39
abbrev t_Wa_indexOf_35 : List UInt8 := 167 :: 255 :: 223 :: t_Wa_indexOf_38
abbrev t_Wa_indexOf_32 : List UInt8 := 132 :: 3 :: 1 :: t_Wa_indexOf_35
abbrev t_Wa_indexOf_31 : List UInt8 := 172 :: t_Wa_indexOf_32
abbrev t_Wa_indexOf_30 : List UInt8 := 29 :: t_Wa_indexOf_31
abbrev t_Wa_indexOf_27 : List UInt8 := 160 :: 0 :: 5 :: t_Wa_indexOf_30
abbrev t_Wa_indexOf_26 : List UInt8 := 28 :: t_Wa_indexOf_27
abbrev t_Wa_indexOf_25 : List UInt8 := 46 :: t_Wa_indexOf_26
abbrev t_Wa_indexOf_24 : List UInt8 := 29 :: t_Wa_indexOf_25
abbrev t_Wa_indexOf_21 : List UInt8 := 180 :: 0 :: 15 :: t_Wa_indexOf_24
abbrev t_Wa_indexOf_20 : List UInt8 := 42 :: t_Wa_indexOf_21
abbrev t_Wa_indexOf_17 : List UInt8 := 160 :: 0 :: 15 :: t_Wa_indexOf_20
abbrev t_Wa_indexOf_16 : List UInt8 := 27 :: t_Wa_indexOf_17
abbrev t_Wa_indexOf_15 : List UInt8 := 46 :: t_Wa_indexOf_16
abbrev t_Wa_indexOf_14 : List UInt8 := 29 :: t_Wa_indexOf_15
abbrev t_Wa_indexOf_11 : List UInt8 := 180 :: 0 :: 9 :: t_Wa_indexOf_14
abbrev t_Wa_indexOf_10 : List UInt8 := 42 :: t_Wa_indexOf_11
abbrev t_Wa_indexOf_7 : List UInt8 := 162 :: 0 :: 31 :: t_Wa_indexOf_10
abbrev t_Wa_indexOf_4 : List UInt8 := 180 :: 0 :: 65 :: t_Wa_indexOf_7
abbrev t_Wa_indexOf_3 : List UInt8 := 42 :: t_Wa_indexOf_4
abbrev t_Wa_indexOf_2 : List UInt8 := 29 :: t_Wa_indexOf_3
abbrev t_Wa_indexOf_1 : List UInt8 := 62 :: t_Wa_indexOf_2
abbrev t_Wa_indexOf_0 : List UInt8 := 3 :: t_Wa_indexOf_1
theorem a_Wa_indexOf_0 : dk_at b_Wa_indexOf 0 t_Wa_indexOf_0 := dk_start (by decide +kernel)
theorem a_Wa_indexOf_1 : dk_at b_Wa_indexOf 1 t_Wa_indexOf_1 := dk_go 1 a_Wa_indexOf_0 rfl
theorem a_Wa_indexOf_2 : dk_at b_Wa_indexOf 2 t_Wa_indexOf_2 := dk_go 1 a_Wa_indexOf_1 rfl
theorem a_Wa_indexOf_3 : dk_at b_Wa_indexOf 3 t_Wa_indexOf_3 := dk_go 1 a_Wa_indexOf_2 rfl
theorem a_Wa_indexOf_4 : dk_at b_Wa_indexOf 4 t_Wa_indexOf_4 := dk_go 1 a_Wa_indexOf_3 rfl
theorem a_Wa_indexOf_7 : dk_at b_Wa_indexOf 7 t_Wa_indexOf_7 := dk_go 3 a_Wa_indexOf_4 rfl
theorem a_Wa_indexOf_10 : dk_at b_Wa_indexOf 10 t_Wa_indexOf_10 := dk_go 3 a_Wa_indexOf_7 rfl
theorem a_Wa_indexOf_11 : dk_at b_Wa_indexOf 11 t_Wa_indexOf_11 := dk_go 1 a_Wa_indexOf_10 rfl
theorem a_Wa_indexOf_14 : dk_at b_Wa_indexOf 14 t_Wa_indexOf_14 := dk_go 3 a_Wa_indexOf_11 rfl
theorem a_Wa_indexOf_15 : dk_at b_Wa_indexOf 15 t_Wa_indexOf_15 := dk_go 1 a_Wa_indexOf_14 rfl
theorem a_Wa_indexOf_16 : dk_at b_Wa_indexOf 16 t_Wa_indexOf_16 := dk_go 1 a_Wa_indexOf_15 rfl
theorem a_Wa_indexOf_17 : dk_at b_Wa_indexOf 17 t_Wa_indexOf_17 := dk_go 1 a_Wa_indexOf_16 rfl
theorem a_Wa_indexOf_20 : dk_at b_Wa_indexOf 20 t_Wa_indexOf_20 := dk_go 3 a_Wa_indexOf_17 rfl
theorem a_Wa_indexOf_21 : dk_at b_Wa_indexOf 21 t_Wa_indexOf_21 := dk_go 1 a_Wa_indexOf_20 rfl
theorem a_Wa_indexOf_24 : dk_at b_Wa_indexOf 24 t_Wa_indexOf_24 := dk_go 3 a_Wa_indexOf_21 rfl
theorem a_Wa_indexOf_25 : dk_at b_Wa_indexOf 25 t_Wa_indexOf_25 := dk_go 1 a_Wa_indexOf_24 rfl
theorem a_Wa_indexOf_26 : dk_at b_Wa_indexOf 26 t_Wa_indexOf_26 := dk_go 1 a_Wa_indexOf_25 rfl
theorem a_Wa_indexOf_27 : dk_at b_Wa_indexOf 27 t_Wa_indexOf_27 := dk_go 1 a_Wa_indexOf_26 rfl
theorem a_Wa_indexOf_30 : dk_at b_Wa_indexOf 30 t_Wa_indexOf_30 := dk_go 3 a_Wa_indexOf_27 rfl
theorem a_Wa_indexOf_31 : dk_at b_Wa_indexOf 31 t_Wa_indexOf_31 := dk_go 1 a_Wa_indexOf_30 rfl
theorem a_Wa_indexOf_32 : dk_at b_Wa_indexOf 32 t_Wa_indexOf_32 := dk_go 1 a_Wa_indexOf_31 rfl
theorem a_Wa_indexOf_35 : dk_at b_Wa_indexOf 35 t_Wa_indexOf_35 := dk_go 3 a_Wa_indexOf_32 rfl
theorem a_Wa_indexOf_38 : dk_at b_Wa_indexOf 38 t_Wa_indexOf_38 := dk_go 3 a_Wa_indexOf_35 rfl
theorem a_Wa_indexOf_39 : dk_at b_Wa_indexOf 39 t_Wa_indexOf_39 := dk_go 1 a_Wa_indexOf_38 rfl
theorem d_Wa_indexOf_0 : decode b_Wa_indexOf 0 = .ok (.iconst 0, 1) := dk_0 a_Wa_indexOf_0 (dko_3 _)
theorem d_Wa_indexOf_1 : decode b_Wa_indexOf 1 = .ok (.istore_n 3, 1) := dk_0 a_Wa_indexOf_1 (dko_62 _)
theorem d_Wa_indexOf_2 : decode b_Wa_indexOf 2 = .ok (.iload_n 3, 1) := dk_0 a_Wa_indexOf_2 (dko_29 _)
theorem d_Wa_indexOf_3 : decode b_Wa_indexOf 3 = .ok (.aload_n 0, 1) := dk_0 a_Wa_indexOf_3 (dko_42 _)
theorem d_Wa_indexOf_4 : decode b_Wa_indexOf 4 = .ok (.getfield 65, 3) := dk_U2 a_Wa_indexOf_4 (dko_180 _) rfl
theorem d_Wa_indexOf_7 : decode b_Wa_indexOf 7 = .ok (.if_icmp .ge 31, 3) := dk_S2 a_Wa_indexOf_7 (dko_162 _) (by decide +kernel)
theorem d_Wa_indexOf_10 : decode b_Wa_indexOf 10 = .ok (.aload_n 0, 1) := dk_0 a_Wa_indexOf_10 (dko_42 _)
theorem d_Wa_indexOf_11 : decode b_Wa_indexOf 11 = .ok (.getfield 9, 3) := dk_U2 a_Wa_indexOf_11 (dko_180 _) rfl
theorem d_Wa_indexOf_14 : decode b_Wa_indexOf 14 = .ok (.iload_n 3, 1) := dk_0 a_Wa_indexOf_14 (dko_29 _)
theorem d_Wa_indexOf_15 : decode b_Wa_indexOf 15 = .ok (.iaload, 1) := dk_0 a_Wa_indexOf_15 (dko_46 _)
theorem d_Wa_indexOf_16 : decode b_Wa_indexOf 16 = .ok (.iload_n 1, 1) := dk_0 a_Wa_indexOf_16 (dko_27 _)
theorem d_Wa_indexOf_17 : decode b_Wa_indexOf 17 = .ok (.if_icmp .ne 15, 3) := dk_S2 a_Wa_indexOf_17 (dko_160 _) (by decide +kernel)
theorem d_Wa_indexOf_20 : decode b_Wa_indexOf 20 = .ok (.aload_n 0, 1) := dk_0 a_Wa_indexOf_20 (dko_42 _)
theorem d_Wa_indexOf_21 : decode b_Wa_indexOf 21 = .ok (.getfield 15, 3) := dk_U2 a_Wa_indexOf_21 (dko_180 _) rfl
theorem d_Wa_indexOf_24 : decode b_Wa_indexOf 24 = .ok (.iload_n 3, 1) := dk_0 a_Wa_indexOf_24 (dko_29 _)
theorem d_Wa_indexOf_25 : decode b_Wa_indexOf 25 = .ok (.iaload, 1) := dk_0 a_Wa_indexOf_25 (dko_46 _)
theorem d_Wa_indexOf_26 : decode b_Wa_indexOf 26 = .ok (.iload_n 2, 1) := dk_0 a_Wa_indexOf_26 (dko_28 _)
theorem d_Wa_indexOf_27 : decode b_Wa_indexOf 27 = .ok (.if_icmp .ne 5, 3) := dk_S2 a_Wa_indexOf_27 (dko_160 _) (by decide +kernel)
theorem d_Wa_indexOf_30 : decode b_Wa_indexOf 30 = .ok (.iload_n 3, 1) := dk_0 a_Wa_indexOf_30 (dko_29 _)
theorem d_Wa_indexOf_31 : decode b_Wa_indexOf 31 = .ok (.ireturn, 1) := dk_0 a_Wa_indexOf_31 (dko_172 _)
theorem d_Wa_indexOf_32 : decode b_Wa_indexOf 32 = .ok (.iinc 3 1, 3) := dk_US a_Wa_indexOf_32 (dko_132 _) (by decide +kernel)
theorem d_Wa_indexOf_35 : decode b_Wa_indexOf 35 = .ok (.goto (-33), 3) := dk_S2 a_Wa_indexOf_35 (dko_167 _) (by decide +kernel)
theorem d_Wa_indexOf_38 : decode b_Wa_indexOf 38 = .ok (.iconst (-1), 1) := dk_0 a_Wa_indexOf_38 (dko_2 _)
theorem d_Wa_indexOf_39 : decode b_Wa_indexOf 39 = .ok (.ireturn, 1) := dk_0 a_Wa_indexOf_39 (dko_172 _)
set_option maxHeartbeats 4000000 in
set_option maxRecDepth 100000 in
theorem ok_Wa_indexOf (pc : Nat) : OpS mt mi_Wa_indexOf pc (cs_Wa_indexOf pc) := (os_n (os_n (os_n (os_n (os_l (so_iconst d_Wa_indexOf_0 (by decide))) (os_n (os_l (so_istore_n d_Wa_indexOf_1 rfl (by decide))) (os_l (so_iload_n d_Wa_indexOf_2 rfl)))) (os_n (os_l (so_aload_n d_Wa_indexOf_3 rfl)) (os_n (os_l (so_get (C := R_Wa) (T := F_Wa) (N := 18) (j := 1) in_Wa rfl (by decide) mw_218 d_Wa_indexOf_4)) (os_l (so_icge d_Wa_indexOf_7 (by decide)))))) (os_n (os_n (os_l (so_aload_n d_Wa_indexOf_10 rfl)) (os_n (os_l (so_get (C := R_Wa) (T := F_Wa) (N := 18) (j := 2) in_Wa rfl (by decide) mw_220 d_Wa_indexOf_11)) (os_l (so_iload_n d_Wa_indexOf_14 rfl)))) (os_n (os_l (so_iaload d_Wa_indexOf_15)) (os_n (os_l (so_iload_n d_Wa_indexOf_16 rfl)) (os_l (so_icne d_Wa_indexOf_17 (by decide))))))) (os_n (os_n (os_n (os_l (so_aload_n d_Wa_indexOf_20 rfl)) (os_n (os_l (so_get (C := R_Wa) (T := F_Wa) (N := 18) (j := 3) in_Wa rfl (by decide) mw_221 d_Wa_indexOf_21)) (os_l (so_iload_n d_Wa_indexOf_24 rfl)))) (os_n (os_l (so_iaload d_Wa_indexOf_25)) (os_n (os_l (so_iload_n d_Wa_indexOf_26 rfl)) (os_l (so_icne d_Wa_indexOf_27 (by decide)))))) (os_n (os_n (os_l (so_iload_n d_Wa_indexOf_30 rfl)) (os_n (os_l (so_ireturn rfl d_Wa_indexOf_31)) (os_l (so_iinc d_Wa_indexOf_32 (by decide) (by decide))))) (os_n (os_l (so_goto d_Wa_indexOf_35 (by decide))) (os_n (os_l (so_iconst d_Wa_indexOf_38 (by decide))) (os_l (so_ireturn rfl d_Wa_indexOf_39)))))))
abbrev t_Wa_goesOver_14 : List UInt8 := 172 :: []
abbrev t_Wa_goesOver_13 : List UInt8 := 3 :: t_Wa_goesOver_14
abbrev t_Wa_goesOver_10 : List UInt8 := 167 :: 0 :: 4 :: t_Wa_goesOver_13
abbrev t_Wa_goesOver_9 : List UInt8 := 4 :: t_Wa_goesOver_10
abbrev t_Wa_goesOver_6 : List UInt8 := 158 :: 0 :: 7 :: t_Wa_goesOver_9
abbrev t_Wa_goesOver_5 : List UInt8 := 46 :: t_Wa_goesOver_6
abbrev t_Wa_goesOver_4 : List UInt8 := 27 :: t_Wa_goesOver_5
abbrev t_Wa_goesOver_1 : List UInt8 := 180 :: 0 :: 43 :: t_Wa_goesOver_4
abbrev t_Wa_goesOver_0 : List UInt8 := 42 :: t_Wa_goesOver_1
theorem a_Wa_goesOver_0 : dk_at b_Wa_goesOver 0 t_Wa_goesOver_0 := dk_start (by decide +kernel)
theorem a_Wa_goesOver_1 : dk_at b_Wa_goesOver 1 t_Wa_goesOver_1 := dk_go 1 a_Wa_goesOver_0 rfl
theorem a_Wa_goesOver_4 : dk_at b_Wa_goesOver 4 t_Wa_goesOver_4 := dk_go 3 a_Wa_goesOver_1 rfl
theorem a_Wa_goesOver_5 : dk_at b_Wa_goesOver 5 t_Wa_goesOver_5 := dk_go 1 a_Wa_goesOver_4 rfl
theorem a_Wa_goesOver_6 : dk_at b_Wa_goesOver 6 t_Wa_goesOver_6 := dk_go 1 a_Wa_goesOver_5 rfl
theorem a_Wa_goesOver_9 : dk_at b_Wa_goesOver 9 t_Wa_goesOver_9 := dk_go 3 a_Wa_goesOver_6 rfl
theorem a_Wa_goesOver_10 : dk_at b_Wa_goesOver 10 t_Wa_goesOver_10 := dk_go 1 a_Wa_goesOver_9 rfl
theorem a_Wa_goesOver_13 : dk_at b_Wa_goesOver 13 t_Wa_goesOver_13 := dk_go 3 a_Wa_goesOver_10 rfl
theorem a_Wa_goesOver_14 : dk_at b_Wa_goesOver 14 t_Wa_goesOver_14 := dk_go 1 a_Wa_goesOver_13 rfl
theorem d_Wa_goesOver_0 : decode b_Wa_goesOver 0 = .ok (.aload_n 0, 1) := dk_0 a_Wa_goesOver_0 (dko_42 _)
theorem d_Wa_goesOver_1 : decode b_Wa_goesOver 1 = .ok (.getfield 43, 3) := dk_U2 a_Wa_goesOver_1 (dko_180 _) rfl
theorem d_Wa_goesOver_4 : decode b_Wa_goesOver 4 = .ok (.iload_n 1, 1) := dk_0 a_Wa_goesOver_4 (dko_27 _)
theorem d_Wa_goesOver_5 : decode b_Wa_goesOver 5 = .ok (.iaload, 1) := dk_0 a_Wa_goesOver_5 (dko_46 _)
theorem d_Wa_goesOver_6 : decode b_Wa_goesOver 6 = .ok (.ifCond .le 7, 3) := dk_S2 a_Wa_goesOver_6 (dko_158 _) (by decide +kernel)
theorem d_Wa_goesOver_9 : decode b_Wa_goesOver 9 = .ok (.iconst 1, 1) := dk_0 a_Wa_goesOver_9 (dko_4 _)
theorem d_Wa_goesOver_10 : decode b_Wa_goesOver 10 = .ok (.goto 4, 3) := dk_S2 a_Wa_goesOver_10 (dko_167 _) (by decide +kernel)
theorem d_Wa_goesOver_13 : decode b_Wa_goesOver 13 = .ok (.iconst 0, 1) := dk_0 a_Wa_goesOver_13 (dko_3 _)
theorem d_Wa_goesOver_14 : decode b_Wa_goesOver 14 = .ok (.ireturn, 1) := dk_0 a_Wa_goesOver_14 (dko_172 _)
set_option maxHeartbeats 4000000 in
set_option maxRecDepth 100000 in
theorem ok_Wa_goesOver (pc : Nat) : OpS mt mi_Wa_goesOver pc (cs_Wa_goesOver pc) := (os_n (os_n (os_n (os_l (so_aload_n d_Wa_goesOver_0 rfl)) (os_l (so_get (C := R_Wa) (T := F_Wa) (N := 18) (j := 12) in_Wa rfl (by decide) mw_230 d_Wa_goesOver_1))) (os_n (os_l (so_iload_n d_Wa_goesOver_4 rfl)) (os_l (so_iaload d_Wa_goesOver_5)))) (os_n (os_n (os_l (so_ifle d_Wa_goesOver_6 (by decide))) (os_l (so_iconst d_Wa_goesOver_9 (by decide)))) (os_n (os_l (so_goto d_Wa_goesOver_10 (by decide))) (os_n (os_l (so_iconst d_Wa_goesOver_13 (by decide))) (os_l (so_zreturn rfl d_Wa_goesOver_14))))))
abbrev t_Wa_hasSpace_68 : List UInt8 := 172 :: []
abbrev t_Wa_hasSpace_67 : List UInt8 := 3 :: t_Wa_hasSpace_68
abbrev t_Wa_hasSpace_64 : List UInt8 := 167 :: 255 :: 223 :: t_Wa_hasSpace_67
abbrev t_Wa_hasSpace_61 : List UInt8 := 132 :: 2 :: 1 :: t_Wa_hasSpace_64
abbrev t_Wa_hasSpace_60 : List UInt8 := 172 :: t_Wa_hasSpace_61
abbrev t_Wa_hasSpace_59 : List UInt8 := 4 :: t_Wa_hasSpace_60
abbrev t_Wa_hasSpace_56 : List UInt8 := 160 :: 0 :: 5 :: t_Wa_hasSpace_59
abbrev t_Wa_hasSpace_55 : List UInt8 := 27 :: t_Wa_hasSpace_56
abbrev t_Wa_hasSpace_54 : List UInt8 := 46 :: t_Wa_hasSpace_55
abbrev t_Wa_hasSpace_53 : List UInt8 := 28 :: t_Wa_hasSpace_54
abbrev t_Wa_hasSpace_50 : List UInt8 := 180 :: 0 :: 15 :: t_Wa_hasSpace_53
abbrev t_Wa_hasSpace_49 : List UInt8 := 42 :: t_Wa_hasSpace_50
abbrev t_Wa_hasSpace_46 : List UInt8 := 159 :: 0 :: 13 :: t_Wa_hasSpace_49
abbrev t_Wa_hasSpace_45 : List UInt8 := 27 :: t_Wa_hasSpace_46
abbrev t_Wa_hasSpace_44 : List UInt8 := 46 :: t_Wa_hasSpace_45
abbrev t_Wa_hasSpace_43 : List UInt8 := 28 :: t_Wa_hasSpace_44
abbrev t_Wa_hasSpace_40 : List UInt8 := 180 :: 0 :: 9 :: t_Wa_hasSpace_43
abbrev t_Wa_hasSpace_39 : List UInt8 := 42 :: t_Wa_hasSpace_40
abbrev t_Wa_hasSpace_36 : List UInt8 := 162 :: 0 :: 31 :: t_Wa_hasSpace_39
abbrev t_Wa_hasSpace_33 : List UInt8 := 180 :: 0 :: 65 :: t_Wa_hasSpace_36
abbrev t_Wa_hasSpace_32 : List UInt8 := 42 :: t_Wa_hasSpace_33
abbrev t_Wa_hasSpace_31 : List UInt8 := 28 :: t_Wa_hasSpace_32
abbrev t_Wa_hasSpace_30 : List UInt8 := 61 :: t_Wa_hasSpace_31
abbrev t_Wa_hasSpace_29 : List UInt8 := 3 :: t_Wa_hasSpace_30
abbrev t_Wa_hasSpace_28 : List UInt8 := 172 :: t_Wa_hasSpace_29
abbrev t_Wa_hasSpace_27 : List UInt8 := 51 :: t_Wa_hasSpace_28
abbrev t_Wa_hasSpace_26 : List UInt8 := 100 :: t_Wa_hasSpace_27
abbrev t_Wa_hasSpace_23 : List UInt8 := 180 :: 0 :: 85 :: t_Wa_hasSpace_26
abbrev t_Wa_hasSpace_20 : List UInt8 := 180 :: 0 :: 81 :: t_Wa_hasSpace_23
abbrev t_Wa_hasSpace_17 : List UInt8 := 180 :: 0 :: 58 :: t_Wa_hasSpace_20
abbrev t_Wa_hasSpace_16 : List UInt8 := 42 :: t_Wa_hasSpace_17
abbrev t_Wa_hasSpace_15 : List UInt8 := 27 :: t_Wa_hasSpace_16
abbrev t_Wa_hasSpace_12 : List UInt8 := 180 :: 0 :: 39 :: t_Wa_hasSpace_15
abbrev t_Wa_hasSpace_11 : List UInt8 := 42 :: t_Wa_hasSpace_12
abbrev t_Wa_hasSpace_8 : List UInt8 := 153 :: 0 :: 21 :: t_Wa_hasSpace_11
abbrev t_Wa_hasSpace_5 : List UInt8 := 182 :: 0 :: 75 :: t_Wa_hasSpace_8
abbrev t_Wa_hasSpace_4 : List UInt8 := 27 :: t_Wa_hasSpace_5
abbrev t_Wa_hasSpace_1 : List UInt8 := 180 :: 0 :: 58 :: t_Wa_hasSpace_4
abbrev t_Wa_hasSpace_0 : List UInt8 := 42 :: t_Wa_hasSpace_1
theorem a_Wa_hasSpace_0 : dk_at b_Wa_hasSpace 0 t_Wa_hasSpace_0 := dk_start (by decide +kernel)
theorem a_Wa_hasSpace_1 : dk_at b_Wa_hasSpace 1 t_Wa_hasSpace_1 := dk_go 1 a_Wa_hasSpace_0 rfl
theorem a_Wa_hasSpace_4 : dk_at b_Wa_hasSpace 4 t_Wa_hasSpace_4 := dk_go 3 a_Wa_hasSpace_1 rfl
theorem a_Wa_hasSpace_5 : dk_at b_Wa_hasSpace 5 t_Wa_hasSpace_5 := dk_go 1 a_Wa_hasSpace_4 rfl
theorem a_Wa_hasSpace_8 : dk_at b_Wa_hasSpace 8 t_Wa_hasSpace_8 := dk_go 3 a_Wa_hasSpace_5 rfl
theorem a_Wa_hasSpace_11 : dk_at b_Wa_hasSpace 11 t_Wa_hasSpace_11 := dk_go 3 a_Wa_hasSpace_8 rfl
theorem a_Wa_hasSpace_12 : dk_at b_Wa_hasSpace 12 t_Wa_hasSpace_12 := dk_go 1 a_Wa_hasSpace_11 rfl
theorem a_Wa_hasSpace_15 : dk_at b_Wa_hasSpace 15 t_Wa_hasSpace_15 := dk_go 3 a_Wa_hasSpace_12 rfl
theorem a_Wa_hasSpace_16 : dk_at b_Wa_hasSpace 16 t_Wa_hasSpace_16 := dk_go 1 a_Wa_hasSpace_15 rfl
theorem a_Wa_hasSpace_17 : dk_at b_Wa_hasSpace 17 t_Wa_hasSpace_17 := dk_go 1 a_Wa_hasSpace_16 rfl
theorem a_Wa_hasSpace_20 : dk_at b_Wa_hasSpace 20 t_Wa_hasSpace_20 := dk_go 3 a_Wa_hasSpace_17 rfl
theorem a_Wa_hasSpace_23 : dk_at b_Wa_hasSpace 23 t_Wa_hasSpace_23 := dk_go 3 a_Wa_hasSpace_20 rfl
theorem a_Wa_hasSpace_26 : dk_at b_Wa_hasSpace 26 t_Wa_hasSpace_26 := dk_go 3 a_Wa_hasSpace_23 rfl
theorem a_Wa_hasSpace_27 : dk_at b_Wa_hasSpace 27 t_Wa_hasSpace_27 := dk_go 1 a_Wa_hasSpace_26 rfl
theorem a_Wa_hasSpace_28 : dk_at b_Wa_hasSpace 28 t_Wa_hasSpace_28 := dk_go 1 a_Wa_hasSpace_27 rfl
theorem a_Wa_hasSpace_29 : dk_at b_Wa_hasSpace 29 t_Wa_hasSpace_29 := dk_go 1 a_Wa_hasSpace_28 rfl
theorem a_Wa_hasSpace_30 : dk_at b_Wa_hasSpace 30 t_Wa_hasSpace_30 := dk_go 1 a_Wa_hasSpace_29 rfl
theorem a_Wa_hasSpace_31 : dk_at b_Wa_hasSpace 31 t_Wa_hasSpace_31 := dk_go 1 a_Wa_hasSpace_30 rfl
theorem a_Wa_hasSpace_32 : dk_at b_Wa_hasSpace 32 t_Wa_hasSpace_32 := dk_go 1 a_Wa_hasSpace_31 rfl
theorem a_Wa_hasSpace_33 : dk_at b_Wa_hasSpace 33 t_Wa_hasSpace_33 := dk_go 1 a_Wa_hasSpace_32 rfl
theorem a_Wa_hasSpace_36 : dk_at b_Wa_hasSpace 36 t_Wa_hasSpace_36 := dk_go 3 a_Wa_hasSpace_33 rfl
theorem a_Wa_hasSpace_39 : dk_at b_Wa_hasSpace 39 t_Wa_hasSpace_39 := dk_go 3 a_Wa_hasSpace_36 rfl
theorem a_Wa_hasSpace_40 : dk_at b_Wa_hasSpace 40 t_Wa_hasSpace_40 := dk_go 1 a_Wa_hasSpace_39 rfl
theorem a_Wa_hasSpace_43 : dk_at b_Wa_hasSpace 43 t_Wa_hasSpace_43 := dk_go 3 a_Wa_hasSpace_40 rfl
theorem a_Wa_hasSpace_44 : dk_at b_Wa_hasSpace 44 t_Wa_hasSpace_44 := dk_go 1 a_Wa_hasSpace_43 rfl
theorem a_Wa_hasSpace_45 : dk_at b_Wa_hasSpace 45 t_Wa_hasSpace_45 := dk_go 1 a_Wa_hasSpace_44 rfl
theorem a_Wa_hasSpace_46 : dk_at b_Wa_hasSpace 46 t_Wa_hasSpace_46 := dk_go 1 a_Wa_hasSpace_45 rfl
theorem a_Wa_hasSpace_49 : dk_at b_Wa_hasSpace 49 t_Wa_hasSpace_49 := dk_go 3 a_Wa_hasSpace_46 rfl
theorem a_Wa_hasSpace_50 : dk_at b_Wa_hasSpace 50 t_Wa_hasSpace_50 := dk_go 1 a_Wa_hasSpace_49 rfl
theorem a_Wa_hasSpace_53 : dk_at b_Wa_hasSpace 53 t_Wa_hasSpace_53 := dk_go 3 a_Wa_hasSpace_50 rfl
theorem a_Wa_hasSpace_54 : dk_at b_Wa_hasSpace 54 t_Wa_hasSpace_54 := dk_go 1 a_Wa_hasSpace_53 rfl
theorem a_Wa_hasSpace_55 : dk_at b_Wa_hasSpace 55 t_Wa_hasSpace_55 := dk_go 1 a_Wa_hasSpace_54 rfl
theorem a_Wa_hasSpace_56 : dk_at b_Wa_hasSpace 56 t_Wa_hasSpace_56 := dk_go 1 a_Wa_hasSpace_55 rfl
theorem a_Wa_hasSpace_59 : dk_at b_Wa_hasSpace 59 t_Wa_hasSpace_59 := dk_go 3 a_Wa_hasSpace_56 rfl
theorem a_Wa_hasSpace_60 : dk_at b_Wa_hasSpace 60 t_Wa_hasSpace_60 := dk_go 1 a_Wa_hasSpace_59 rfl
theorem a_Wa_hasSpace_61 : dk_at b_Wa_hasSpace 61 t_Wa_hasSpace_61 := dk_go 1 a_Wa_hasSpace_60 rfl
theorem a_Wa_hasSpace_64 : dk_at b_Wa_hasSpace 64 t_Wa_hasSpace_64 := dk_go 3 a_Wa_hasSpace_61 rfl
theorem a_Wa_hasSpace_67 : dk_at b_Wa_hasSpace 67 t_Wa_hasSpace_67 := dk_go 3 a_Wa_hasSpace_64 rfl
theorem a_Wa_hasSpace_68 : dk_at b_Wa_hasSpace 68 t_Wa_hasSpace_68 := dk_go 1 a_Wa_hasSpace_67 rfl
theorem d_Wa_hasSpace_0 : decode b_Wa_hasSpace 0 = .ok (.aload_n 0, 1) := dk_0 a_Wa_hasSpace_0 (dko_42 _)
theorem d_Wa_hasSpace_1 : decode b_Wa_hasSpace 1 = .ok (.getfield 58, 3) := dk_U2 a_Wa_hasSpace_1 (dko_180 _) rfl
theorem d_Wa_hasSpace_4 : decode b_Wa_hasSpace 4 = .ok (.iload_n 1, 1) := dk_0 a_Wa_hasSpace_4 (dko_27 _)
theorem d_Wa_hasSpace_5 : decode b_Wa_hasSpace 5 = .ok (.invokevirtual 75, 3) := dk_U2 a_Wa_hasSpace_5 (dko_182 _) rfl
theorem d_Wa_hasSpace_8 : decode b_Wa_hasSpace 8 = .ok (.ifCond .eq 21, 3) := dk_S2 a_Wa_hasSpace_8 (dko_153 _) (by decide +kernel)
theorem d_Wa_hasSpace_11 : decode b_Wa_hasSpace 11 = .ok (.aload_n 0, 1) := dk_0 a_Wa_hasSpace_11 (dko_42 _)
theorem d_Wa_hasSpace_12 : decode b_Wa_hasSpace 12 = .ok (.getfield 39, 3) := dk_U2 a_Wa_hasSpace_12 (dko_180 _) rfl
theorem d_Wa_hasSpace_15 : decode b_Wa_hasSpace 15 = .ok (.iload_n 1, 1) := dk_0 a_Wa_hasSpace_15 (dko_27 _)
theorem d_Wa_hasSpace_16 : decode b_Wa_hasSpace 16 = .ok (.aload_n 0, 1) := dk_0 a_Wa_hasSpace_16 (dko_42 _)
theorem d_Wa_hasSpace_17 : decode b_Wa_hasSpace 17 = .ok (.getfield 58, 3) := dk_U2 a_Wa_hasSpace_17 (dko_180 _) rfl
theorem d_Wa_hasSpace_20 : decode b_Wa_hasSpace 20 = .ok (.getfield 81, 3) := dk_U2 a_Wa_hasSpace_20 (dko_180 _) rfl
theorem d_Wa_hasSpace_23 : decode b_Wa_hasSpace 23 = .ok (.getfield 85, 3) := dk_U2 a_Wa_hasSpace_23 (dko_180 _) rfl
theorem d_Wa_hasSpace_26 : decode b_Wa_hasSpace 26 = .ok (.isub, 1) := dk_0 a_Wa_hasSpace_26 (dko_100 _)
theorem d_Wa_hasSpace_27 : decode b_Wa_hasSpace 27 = .ok (.baload, 1) := dk_0 a_Wa_hasSpace_27 (dko_51 _)
theorem d_Wa_hasSpace_28 : decode b_Wa_hasSpace 28 = .ok (.ireturn, 1) := dk_0 a_Wa_hasSpace_28 (dko_172 _)
theorem d_Wa_hasSpace_29 : decode b_Wa_hasSpace 29 = .ok (.iconst 0, 1) := dk_0 a_Wa_hasSpace_29 (dko_3 _)
theorem d_Wa_hasSpace_30 : decode b_Wa_hasSpace 30 = .ok (.istore_n 2, 1) := dk_0 a_Wa_hasSpace_30 (dko_61 _)
theorem d_Wa_hasSpace_31 : decode b_Wa_hasSpace 31 = .ok (.iload_n 2, 1) := dk_0 a_Wa_hasSpace_31 (dko_28 _)
theorem d_Wa_hasSpace_32 : decode b_Wa_hasSpace 32 = .ok (.aload_n 0, 1) := dk_0 a_Wa_hasSpace_32 (dko_42 _)
theorem d_Wa_hasSpace_33 : decode b_Wa_hasSpace 33 = .ok (.getfield 65, 3) := dk_U2 a_Wa_hasSpace_33 (dko_180 _) rfl
theorem d_Wa_hasSpace_36 : decode b_Wa_hasSpace 36 = .ok (.if_icmp .ge 31, 3) := dk_S2 a_Wa_hasSpace_36 (dko_162 _) (by decide +kernel)
theorem d_Wa_hasSpace_39 : decode b_Wa_hasSpace 39 = .ok (.aload_n 0, 1) := dk_0 a_Wa_hasSpace_39 (dko_42 _)
theorem d_Wa_hasSpace_40 : decode b_Wa_hasSpace 40 = .ok (.getfield 9, 3) := dk_U2 a_Wa_hasSpace_40 (dko_180 _) rfl
theorem d_Wa_hasSpace_43 : decode b_Wa_hasSpace 43 = .ok (.iload_n 2, 1) := dk_0 a_Wa_hasSpace_43 (dko_28 _)
theorem d_Wa_hasSpace_44 : decode b_Wa_hasSpace 44 = .ok (.iaload, 1) := dk_0 a_Wa_hasSpace_44 (dko_46 _)
theorem d_Wa_hasSpace_45 : decode b_Wa_hasSpace 45 = .ok (.iload_n 1, 1) := dk_0 a_Wa_hasSpace_45 (dko_27 _)
theorem d_Wa_hasSpace_46 : decode b_Wa_hasSpace 46 = .ok (.if_icmp .eq 13, 3) := dk_S2 a_Wa_hasSpace_46 (dko_159 _) (by decide +kernel)
theorem d_Wa_hasSpace_49 : decode b_Wa_hasSpace 49 = .ok (.aload_n 0, 1) := dk_0 a_Wa_hasSpace_49 (dko_42 _)
theorem d_Wa_hasSpace_50 : decode b_Wa_hasSpace 50 = .ok (.getfield 15, 3) := dk_U2 a_Wa_hasSpace_50 (dko_180 _) rfl
theorem d_Wa_hasSpace_53 : decode b_Wa_hasSpace 53 = .ok (.iload_n 2, 1) := dk_0 a_Wa_hasSpace_53 (dko_28 _)
theorem d_Wa_hasSpace_54 : decode b_Wa_hasSpace 54 = .ok (.iaload, 1) := dk_0 a_Wa_hasSpace_54 (dko_46 _)
theorem d_Wa_hasSpace_55 : decode b_Wa_hasSpace 55 = .ok (.iload_n 1, 1) := dk_0 a_Wa_hasSpace_55 (dko_27 _)
theorem d_Wa_hasSpace_56 : decode b_Wa_hasSpace 56 = .ok (.if_icmp .ne 5, 3) := dk_S2 a_Wa_hasSpace_56 (dko_160 _) (by decide +kernel)
theorem d_Wa_hasSpace_59 : decode b_Wa_hasSpace 59 = .ok (.iconst 1, 1) := dk_0 a_Wa_hasSpace_59 (dko_4 _)
theorem d_Wa_hasSpace_60 : decode b_Wa_hasSpace 60 = .ok (.ireturn, 1) := dk_0 a_Wa_hasSpace_60 (dko_172 _)
theorem d_Wa_hasSpace_61 : decode b_Wa_hasSpace 61 = .ok (.iinc 2 1, 3) := dk_US a_Wa_hasSpace_61 (dko_132 _) (by decide +kernel)
theorem d_Wa_hasSpace_64 : decode b_Wa_hasSpace 64 = .ok (.goto (-33), 3) := dk_S2 a_Wa_hasSpace_64 (dko_167 _) (by decide +kernel)
theorem d_Wa_hasSpace_67 : decode b_Wa_hasSpace 67 = .ok (.iconst 0, 1) := dk_0 a_Wa_hasSpace_67 (dko_3 _)
theorem d_Wa_hasSpace_68 : decode b_Wa_hasSpace 68 = .ok (.ireturn, 1) := dk_0 a_Wa_hasSpace_68 (dko_172 _)
set_option maxHeartbeats 4000000 in
set_option maxRecDepth 100000 in
theorem ok_Wa_hasSpace (pc : Nat) : OpS mt mi_Wa_hasSpace pc (cs_Wa_hasSpace pc) := (os_n (os_n (os_n (os_n (os_n (os_l (so_aload_n d_Wa_hasSpace_0 rfl)) (os_l (so_get (C := R_Wa) (T := F_Wa) (N := 18) (j := 0) in_Wa rfl (by decide) mw_217 d_Wa_hasSpace_1))) (os_n (os_l (so_iload_n d_Wa_hasSpace_4 rfl)) (os_l (so_callV (iv := mi_St_isPipe) rfl rfl rfl mw_1272 mw_1205 mw_1206 mw_4 mw_1207 ⟨by decide +kernel, by decide +kernel, by decide +kernel⟩ (by decide) d_Wa_hasSpace_5)))) (os_n (os_n (os_l (so_ifeq d_Wa_hasSpace_8 (by decide))) (os_l (so_aload_n d_Wa_hasSpace_11 rfl))) (os_n (os_l (so_get (C := R_Wa) (T := F_Wa) (N := 18) (j := 11) in_Wa rfl (by decide) mw_229 d_Wa_hasSpace_12)) (os_n (os_l (so_iload_n d_Wa_hasSpace_15 rfl)) (os_l (so_aload_n d_Wa_hasSpace_16 rfl)))))) (os_n (os_n (os_n (os_l (so_get (C := R_Wa) (T := F_Wa) (N := 18) (j := 0) in_Wa rfl (by decide) mw_217 d_Wa_hasSpace_17)) (os_l (so_get (C := R_St) (T := F_St) (N := 12) (j := 0) in_St rfl (by decide) mw_152 d_Wa_hasSpace_20))) (os_n (os_l (so_get (C := R_Pl) (T := F_Pl) (N := 12) (j := 0) in_Pl rfl (by decide) mw_90 d_Wa_hasSpace_23)) (os_n (os_l (so_isub d_Wa_hasSpace_26)) (os_l (so_baload d_Wa_hasSpace_27))))) (os_n (os_n (os_l (so_zreturn rfl d_Wa_hasSpace_28)) (os_l (so_iconst d_Wa_hasSpace_29 (by decide)))) (os_n (os_l (so_istore_n d_Wa_hasSpace_30 rfl (by decide))) (os_n (os_l (so_iload_n d_Wa_hasSpace_31 rfl)) (os_l (so_aload_n d_Wa_hasSpace_32 rfl))))))) (os_n (os_n (os_n (os_n (os_l (so_get (C := R_Wa) (T := F_Wa) (N := 18) (j := 1) in_Wa rfl (by decide) mw_218 d_Wa_hasSpace_33)) (os_l (so_icge d_Wa_hasSpace_36 (by decide)))) (os_n (os_l (so_aload_n d_Wa_hasSpace_39 rfl)) (os_n (os_l (so_get (C := R_Wa) (T := F_Wa) (N := 18) (j := 2) in_Wa rfl (by decide) mw_220 d_Wa_hasSpace_40)) (os_l (so_iload_n d_Wa_hasSpace_43 rfl))))) (os_n (os_n (os_l (so_iaload d_Wa_hasSpace_44)) (os_l (so_iload_n d_Wa_hasSpace_45 rfl))) (os_n (os_l (so_iceq d_Wa_hasSpace_46 (by decide))) (os_n (os_l (so_aload_n d_Wa_hasSpace_49 rfl)) (os_l (so_get (C := R_Wa) (T := F_Wa) (N := 18) (j := 3) in_Wa rfl (by decide) mw_221 d_Wa_hasSpace_50)))))) (os_n (os_n (os_n (os_l (so_iload_n d_Wa_hasSpace_53 rfl)) (os_l (so_iaload d_Wa_hasSpace_54))) (os_n (os_l (so_iload_n d_Wa_hasSpace_55 rfl)) (os_n (os_l (so_icne d_Wa_hasSpace_56 (by decide))) (os_l (so_iconst d_Wa_hasSpace_59 (by decide)))))) (os_n (os_n (os_l (so_zreturn rfl d_Wa_hasSpace_60)) (os_l (so_iinc d_Wa_hasSpace_61 (by decide) (by decide)))) (os_n (os_l (so_goto d_Wa_hasSpace_64 (by decide))) (os_n (os_l (so_iconst d_Wa_hasSpace_67 (by decide))) (os_l (so_zreturn rfl d_Wa_hasSpace_68))))))))
abbrev t_Wa_find_313 : List UInt8 := 172 :: []
abbrev t_Wa_find_312 : List UInt8 := 3 :: t_Wa_find_313
abbrev t_Wa_find_309 : List UInt8 := 167 :: 0 :: 4 :: t_Wa_find_312
abbrev t_Wa_find_308 : List UInt8 := 4 :: t_Wa_find_309
abbrev t_Wa_find_305 : List UInt8 := 158 :: 0 :: 7 :: t_Wa_find_308
abbrev t_Wa_find_302 : List UInt8 := 180 :: 0 :: 107 :: t_Wa_find_305
abbrev t_Wa_find_301 : List UInt8 := 42 :: t_Wa_find_302
abbrev t_Wa_find_298 : List UInt8 := 167 :: 255 :: 192 :: t_Wa_find_301
abbrev t_Wa_find_296 : List UInt8 := 54 :: 6 :: t_Wa_find_298
abbrev t_Wa_find_293 : List UInt8 := 182 :: 0 :: 100 :: t_Wa_find_296
abbrev t_Wa_find_291 : List UInt8 := 21 :: 7 :: t_Wa_find_293
abbrev t_Wa_find_290 : List UInt8 := 42 :: t_Wa_find_291
abbrev t_Wa_find_287 : List UInt8 := 167 :: 0 :: 9 :: t_Wa_find_290
abbrev t_Wa_find_286 : List UInt8 := 2 :: t_Wa_find_287
abbrev t_Wa_find_283 : List UInt8 := 160 :: 0 :: 7 :: t_Wa_find_286
abbrev t_Wa_find_282 : List UInt8 := 28 :: t_Wa_find_283
abbrev t_Wa_find_281 : List UInt8 := 46 :: t_Wa_find_282
abbrev t_Wa_find_279 : List UInt8 := 21 :: 7 :: t_Wa_find_281
abbrev t_Wa_find_276 : List UInt8 := 180 :: 0 :: 93 :: t_Wa_find_279
abbrev t_Wa_find_275 : List UInt8 := 45 :: t_Wa_find_276
abbrev t_Wa_find_272 : List UInt8 := 181 :: 0 :: 107 :: t_Wa_find_275
abbrev t_Wa_find_271 : List UInt8 := 96 :: t_Wa_find_272
abbrev t_Wa_find_270 : List UInt8 := 4 :: t_Wa_find_271
abbrev t_Wa_find_267 : List UInt8 := 180 :: 0 :: 107 :: t_Wa_find_270
abbrev t_Wa_find_266 : List UInt8 := 89 :: t_Wa_find_267
abbrev t_Wa_find_265 : List UInt8 := 42 :: t_Wa_find_266
abbrev t_Wa_find_264 : List UInt8 := 79 :: t_Wa_find_265
abbrev t_Wa_find_262 : List UInt8 := 21 :: 7 :: t_Wa_find_264
abbrev t_Wa_find_259 : List UInt8 := 180 :: 0 :: 107 :: t_Wa_find_262
abbrev t_Wa_find_258 : List UInt8 := 42 :: t_Wa_find_259
abbrev t_Wa_find_255 : List UInt8 := 180 :: 0 :: 49 :: t_Wa_find_258
abbrev t_Wa_find_254 : List UInt8 := 42 :: t_Wa_find_255
abbrev t_Wa_find_252 : List UInt8 := 54 :: 7 :: t_Wa_find_254
abbrev t_Wa_find_251 : List UInt8 := 130 :: t_Wa_find_252
abbrev t_Wa_find_250 : List UInt8 := 4 :: t_Wa_find_251
abbrev t_Wa_find_248 : List UInt8 := 21 :: 6 :: t_Wa_find_250
abbrev t_Wa_find_245 : List UInt8 := 162 :: 0 :: 56 :: t_Wa_find_248
abbrev t_Wa_find_243 : List UInt8 := 16 :: 24 :: t_Wa_find_245
abbrev t_Wa_find_240 : List UInt8 := 180 :: 0 :: 107 :: t_Wa_find_243
abbrev t_Wa_find_239 : List UInt8 := 42 :: t_Wa_find_240
abbrev t_Wa_find_236 : List UInt8 := 155 :: 0 :: 65 :: t_Wa_find_239
abbrev t_Wa_find_234 : List UInt8 := 21 :: 6 :: t_Wa_find_236
abbrev t_Wa_find_231 : List UInt8 := 181 :: 0 :: 107 :: t_Wa_find_234
abbrev t_Wa_find_230 : List UInt8 := 3 :: t_Wa_find_231
abbrev t_Wa_find_229 : List UInt8 := 42 :: t_Wa_find_230
abbrev t_Wa_find_227 : List UInt8 := 54 :: 6 :: t_Wa_find_229
abbrev t_Wa_find_224 : List UInt8 := 182 :: 0 :: 104 :: t_Wa_find_227
abbrev t_Wa_find_223 : List UInt8 := 27 :: t_Wa_find_224
abbrev t_Wa_find_222 : List UInt8 := 42 :: t_Wa_find_223
abbrev t_Wa_find_219 : List UInt8 := 167 :: 255 :: 138 :: t_Wa_find_222
abbrev t_Wa_find_216 : List UInt8 := 132 :: 6 :: 1 :: t_Wa_find_219
abbrev t_Wa_find_213 : List UInt8 := 167 :: 255 :: 162 :: t_Wa_find_216
abbrev t_Wa_find_210 : List UInt8 := 132 :: 7 :: 1 :: t_Wa_find_213
abbrev t_Wa_find_208 : List UInt8 := 54 :: 5 :: t_Wa_find_210
abbrev t_Wa_find_207 : List UInt8 := 4 :: t_Wa_find_208
abbrev t_Wa_find_206 : List UInt8 := 79 :: t_Wa_find_207
abbrev t_Wa_find_204 : List UInt8 := 21 :: 9 :: t_Wa_find_206
abbrev t_Wa_find_202 : List UInt8 := 21 :: 7 :: t_Wa_find_204
abbrev t_Wa_find_199 : List UInt8 := 180 :: 0 :: 46 :: t_Wa_find_202
abbrev t_Wa_find_198 : List UInt8 := 42 :: t_Wa_find_199
abbrev t_Wa_find_195 : List UInt8 := 162 :: 0 :: 15 :: t_Wa_find_198
abbrev t_Wa_find_194 : List UInt8 := 46 :: t_Wa_find_195
abbrev t_Wa_find_192 : List UInt8 := 21 :: 7 :: t_Wa_find_194
abbrev t_Wa_find_189 : List UInt8 := 180 :: 0 :: 46 :: t_Wa_find_192
abbrev t_Wa_find_188 : List UInt8 := 42 :: t_Wa_find_189
abbrev t_Wa_find_186 : List UInt8 := 21 :: 9 :: t_Wa_find_188
abbrev t_Wa_find_184 : List UInt8 := 54 :: 9 :: t_Wa_find_186
abbrev t_Wa_find_183 : List UInt8 := 96 :: t_Wa_find_184
abbrev t_Wa_find_182 : List UInt8 := 46 :: t_Wa_find_183
abbrev t_Wa_find_180 : List UInt8 := 21 :: 8 :: t_Wa_find_182
abbrev t_Wa_find_177 : List UInt8 := 180 :: 0 :: 46 :: t_Wa_find_180
abbrev t_Wa_find_176 : List UInt8 := 42 :: t_Wa_find_177
abbrev t_Wa_find_175 : List UInt8 := 96 :: t_Wa_find_176
abbrev t_Wa_find_174 : List UInt8 := 4 :: t_Wa_find_175
abbrev t_Wa_find_173 : List UInt8 := 104 :: t_Wa_find_174
abbrev t_Wa_find_171 : List UInt8 := 16 :: 32 :: t_Wa_find_173
abbrev t_Wa_find_170 : List UInt8 := 46 :: t_Wa_find_171
abbrev t_Wa_find_169 : List UInt8 := 122 :: t_Wa_find_170
abbrev t_Wa_find_168 : List UInt8 := 4 :: t_Wa_find_169
abbrev t_Wa_find_166 : List UInt8 := 21 :: 7 :: t_Wa_find_168
abbrev t_Wa_find_163 : List UInt8 := 180 :: 0 :: 96 :: t_Wa_find_166
abbrev t_Wa_find_162 : List UInt8 := 45 :: t_Wa_find_163
abbrev t_Wa_find_159 : List UInt8 := 167 :: 0 :: 25 :: t_Wa_find_162
abbrev t_Wa_find_157 : List UInt8 := 18 :: 99 :: t_Wa_find_159
abbrev t_Wa_find_154 : List UInt8 := 156 :: 0 :: 8 :: t_Wa_find_157
abbrev t_Wa_find_152 : List UInt8 := 21 :: 8 :: t_Wa_find_154
abbrev t_Wa_find_150 : List UInt8 := 54 :: 8 :: t_Wa_find_152
abbrev t_Wa_find_147 : List UInt8 := 182 :: 0 :: 100 :: t_Wa_find_150
abbrev t_Wa_find_146 : List UInt8 := 130 :: t_Wa_find_147
abbrev t_Wa_find_145 : List UInt8 := 4 :: t_Wa_find_146
abbrev t_Wa_find_143 : List UInt8 := 21 :: 7 :: t_Wa_find_145
abbrev t_Wa_find_142 : List UInt8 := 42 :: t_Wa_find_143
abbrev t_Wa_find_139 : List UInt8 := 167 :: 0 :: 11 :: t_Wa_find_142
abbrev t_Wa_find_138 : List UInt8 := 2 :: t_Wa_find_139
abbrev t_Wa_find_135 : List UInt8 := 153 :: 0 :: 7 :: t_Wa_find_138
abbrev t_Wa_find_134 : List UInt8 := 51 :: t_Wa_find_135
abbrev t_Wa_find_133 : List UInt8 := 122 :: t_Wa_find_134
abbrev t_Wa_find_132 : List UInt8 := 4 :: t_Wa_find_133
abbrev t_Wa_find_130 : List UInt8 := 21 :: 7 :: t_Wa_find_132
abbrev t_Wa_find_127 : List UInt8 := 180 :: 0 :: 39 :: t_Wa_find_130
abbrev t_Wa_find_126 : List UInt8 := 42 :: t_Wa_find_127
abbrev t_Wa_find_123 : List UInt8 := 162 :: 0 :: 93 :: t_Wa_find_126
abbrev t_Wa_find_121 : List UInt8 := 21 :: 4 :: t_Wa_find_123
abbrev t_Wa_find_119 : List UInt8 := 21 :: 7 :: t_Wa_find_121
abbrev t_Wa_find_117 : List UInt8 := 54 :: 7 :: t_Wa_find_119
abbrev t_Wa_find_116 : List UInt8 := 3 :: t_Wa_find_117
abbrev t_Wa_find_114 : List UInt8 := 54 :: 5 :: t_Wa_find_116
abbrev t_Wa_find_113 : List UInt8 := 3 :: t_Wa_find_114
abbrev t_Wa_find_110 : List UInt8 := 163 :: 0 :: 112 :: t_Wa_find_113
abbrev t_Wa_find_108 : List UInt8 := 21 :: 4 :: t_Wa_find_110
abbrev t_Wa_find_106 : List UInt8 := 21 :: 6 :: t_Wa_find_108
abbrev t_Wa_find_103 : List UInt8 := 153 :: 0 :: 119 :: t_Wa_find_106
abbrev t_Wa_find_101 : List UInt8 := 21 :: 5 :: t_Wa_find_103
abbrev t_Wa_find_99 : List UInt8 := 54 :: 6 :: t_Wa_find_101
abbrev t_Wa_find_98 : List UInt8 := 3 :: t_Wa_find_99
abbrev t_Wa_find_96 : List UInt8 := 54 :: 5 :: t_Wa_find_98
abbrev t_Wa_find_95 : List UInt8 := 4 :: t_Wa_find_96
abbrev t_Wa_find_92 : List UInt8 := 167 :: 255 :: 183 :: t_Wa_find_95
abbrev t_Wa_find_89 : List UInt8 := 132 :: 5 :: 1 :: t_Wa_find_92
abbrev t_Wa_find_88 : List UInt8 := 79 :: t_Wa_find_89
abbrev t_Wa_find_86 : List UInt8 := 18 :: 99 :: t_Wa_find_88
abbrev t_Wa_find_83 : List UInt8 := 167 :: 0 :: 5 :: t_Wa_find_86
abbrev t_Wa_find_82 : List UInt8 := 96 :: t_Wa_find_83
abbrev t_Wa_find_81 : List UInt8 := 4 :: t_Wa_find_82
abbrev t_Wa_find_80 : List UInt8 := 104 :: t_Wa_find_81
abbrev t_Wa_find_78 : List UInt8 := 16 :: 32 :: t_Wa_find_80
abbrev t_Wa_find_77 : List UInt8 := 46 :: t_Wa_find_78
abbrev t_Wa_find_76 : List UInt8 := 122 :: t_Wa_find_77
abbrev t_Wa_find_75 : List UInt8 := 4 :: t_Wa_find_76
abbrev t_Wa_find_73 : List UInt8 := 21 :: 5 :: t_Wa_find_75
abbrev t_Wa_find_70 : List UInt8 := 180 :: 0 :: 96 :: t_Wa_find_73
abbrev t_Wa_find_69 : List UInt8 := 45 :: t_Wa_find_70
abbrev t_Wa_find_66 : List UInt8 := 153 :: 0 :: 20 :: t_Wa_find_69
abbrev t_Wa_find_64 : List UInt8 := 21 :: 6 :: t_Wa_find_66
abbrev t_Wa_find_62 : List UInt8 := 21 :: 5 :: t_Wa_find_64
abbrev t_Wa_find_59 : List UInt8 := 180 :: 0 :: 46 :: t_Wa_find_62
abbrev t_Wa_find_58 : List UInt8 := 42 :: t_Wa_find_59
abbrev t_Wa_find_56 : List UInt8 := 54 :: 6 :: t_Wa_find_58
abbrev t_Wa_find_55 : List UInt8 := 3 :: t_Wa_find_56
abbrev t_Wa_find_52 : List UInt8 := 167 :: 0 :: 4 :: t_Wa_find_55
abbrev t_Wa_find_51 : List UInt8 := 4 :: t_Wa_find_52
abbrev t_Wa_find_48 : List UInt8 := 154 :: 0 :: 7 :: t_Wa_find_51
abbrev t_Wa_find_47 : List UInt8 := 51 :: t_Wa_find_48
abbrev t_Wa_find_46 : List UInt8 := 122 :: t_Wa_find_47
abbrev t_Wa_find_45 : List UInt8 := 4 :: t_Wa_find_46
abbrev t_Wa_find_43 : List UInt8 := 21 :: 5 :: t_Wa_find_45
abbrev t_Wa_find_40 : List UInt8 := 180 :: 0 :: 39 :: t_Wa_find_43
abbrev t_Wa_find_39 : List UInt8 := 42 :: t_Wa_find_40
abbrev t_Wa_find_36 : List UInt8 := 160 :: 0 :: 19 :: t_Wa_find_39
abbrev t_Wa_find_35 : List UInt8 := 28 :: t_Wa_find_36
abbrev t_Wa_find_34 : List UInt8 := 46 :: t_Wa_find_35
abbrev t_Wa_find_33 : List UInt8 := 130 :: t_Wa_find_34
abbrev t_Wa_find_32 : List UInt8 := 4 :: t_Wa_find_33
abbrev t_Wa_find_30 : List UInt8 := 21 :: 5 :: t_Wa_find_32
abbrev t_Wa_find_27 : List UInt8 := 180 :: 0 :: 93 :: t_Wa_find_30
abbrev t_Wa_find_26 : List UInt8 := 45 :: t_Wa_find_27
abbrev t_Wa_find_23 : List UInt8 := 162 :: 0 :: 72 :: t_Wa_find_26
abbrev t_Wa_find_21 : List UInt8 := 21 :: 4 :: t_Wa_find_23
abbrev t_Wa_find_19 : List UInt8 := 21 :: 5 :: t_Wa_find_21
abbrev t_Wa_find_17 : List UInt8 := 54 :: 5 :: t_Wa_find_19
abbrev t_Wa_find_16 : List UInt8 := 3 :: t_Wa_find_17
abbrev t_Wa_find_14 : List UInt8 := 54 :: 4 :: t_Wa_find_16
abbrev t_Wa_find_13 : List UInt8 := 104 :: t_Wa_find_14
abbrev t_Wa_find_10 : List UInt8 := 180 :: 0 :: 90 :: t_Wa_find_13
abbrev t_Wa_find_9 : List UInt8 := 45 :: t_Wa_find_10
abbrev t_Wa_find_8 : List UInt8 := 5 :: t_Wa_find_9
abbrev t_Wa_find_7 : List UInt8 := 78 :: t_Wa_find_8
abbrev t_Wa_find_4 : List UInt8 := 180 :: 0 :: 81 :: t_Wa_find_7
abbrev t_Wa_find_1 : List UInt8 := 180 :: 0 :: 58 :: t_Wa_find_4
abbrev t_Wa_find_0 : List UInt8 := 42 :: t_Wa_find_1
theorem a_Wa_find_0 : dk_at b_Wa_find 0 t_Wa_find_0 := dk_start (by decide +kernel)
theorem a_Wa_find_1 : dk_at b_Wa_find 1 t_Wa_find_1 := dk_go 1 a_Wa_find_0 rfl
theorem a_Wa_find_4 : dk_at b_Wa_find 4 t_Wa_find_4 := dk_go 3 a_Wa_find_1 rfl
theorem a_Wa_find_7 : dk_at b_Wa_find 7 t_Wa_find_7 := dk_go 3 a_Wa_find_4 rfl
theorem a_Wa_find_8 : dk_at b_Wa_find 8 t_Wa_find_8 := dk_go 1 a_Wa_find_7 rfl
theorem a_Wa_find_9 : dk_at b_Wa_find 9 t_Wa_find_9 := dk_go 1 a_Wa_find_8 rfl
theorem a_Wa_find_10 : dk_at b_Wa_find 10 t_Wa_find_10 := dk_go 1 a_Wa_find_9 rfl
theorem a_Wa_find_13 : dk_at b_Wa_find 13 t_Wa_find_13 := dk_go 3 a_Wa_find_10 rfl
theorem a_Wa_find_14 : dk_at b_Wa_find 14 t_Wa_find_14 := dk_go 1 a_Wa_find_13 rfl
theorem a_Wa_find_16 : dk_at b_Wa_find 16 t_Wa_find_16 := dk_go 2 a_Wa_find_14 rfl
theorem a_Wa_find_17 : dk_at b_Wa_find 17 t_Wa_find_17 := dk_go 1 a_Wa_find_16 rfl
theorem a_Wa_find_19 : dk_at b_Wa_find 19 t_Wa_find_19 := dk_go 2 a_Wa_find_17 rfl
theorem a_Wa_find_21 : dk_at b_Wa_find 21 t_Wa_find_21 := dk_go 2 a_Wa_find_19 rfl
theorem a_Wa_find_23 : dk_at b_Wa_find 23 t_Wa_find_23 := dk_go 2 a_Wa_find_21 rfl
theorem a_Wa_find_26 : dk_at b_Wa_find 26 t_Wa_find_26 := dk_go 3 a_Wa_find_23 rfl
theorem a_Wa_find_27 : dk_at b_Wa_find 27 t_Wa_find_27 := dk_go 1 a_Wa_find_26 rfl
theorem a_Wa_find_30 : dk_at b_Wa_find 30 t_Wa_find_30 := dk_go 3 a_Wa_find_27 rfl
theorem a_Wa_find_32 : dk_at b_Wa_find 32 t_Wa_find_32 := dk_go 2 a_Wa_find_30 rfl
theorem a_Wa_find_33 : dk_at b_Wa_find 33 t_Wa_find_33 := dk_go 1 a_Wa_find_32 rfl
theorem a_Wa_find_34 : dk_at b_Wa_find 34 t_Wa_find_34 := dk_go 1 a_Wa_find_33 rfl
theorem a_Wa_find_35 : dk_at b_Wa_find 35 t_Wa_find_35 := dk_go 1 a_Wa_find_34 rfl
theorem a_Wa_find_36 : dk_at b_Wa_find 36 t_Wa_find_36 := dk_go 1 a_Wa_find_35 rfl
theorem a_Wa_find_39 : dk_at b_Wa_find 39 t_Wa_find_39 := dk_go 3 a_Wa_find_36 rfl
theorem a_Wa_find_40 : dk_at b_Wa_find 40 t_Wa_find_40 := dk_go 1 a_Wa_find_39 rfl
theorem a_Wa_find_43 : dk_at b_Wa_find 43 t_Wa_find_43 := dk_go 3 a_Wa_find_40 rfl
theorem a_Wa_find_45 : dk_at b_Wa_find 45 t_Wa_find_45 := dk_go 2 a_Wa_find_43 rfl
theorem a_Wa_find_46 : dk_at b_Wa_find 46 t_Wa_find_46 := dk_go 1 a_Wa_find_45 rfl
theorem a_Wa_find_47 : dk_at b_Wa_find 47 t_Wa_find_47 := dk_go 1 a_Wa_find_46 rfl
theorem a_Wa_find_48 : dk_at b_Wa_find 48 t_Wa_find_48 := dk_go 1 a_Wa_find_47 rfl
theorem a_Wa_find_51 : dk_at b_Wa_find 51 t_Wa_find_51 := dk_go 3 a_Wa_find_48 rfl
theorem a_Wa_find_52 : dk_at b_Wa_find 52 t_Wa_find_52 := dk_go 1 a_Wa_find_51 rfl
theorem a_Wa_find_55 : dk_at b_Wa_find 55 t_Wa_find_55 := dk_go 3 a_Wa_find_52 rfl
theorem a_Wa_find_56 : dk_at b_Wa_find 56 t_Wa_find_56 := dk_go 1 a_Wa_find_55 rfl
theorem a_Wa_find_58 : dk_at b_Wa_find 58 t_Wa_find_58 := dk_go 2 a_Wa_find_56 rfl
theorem a_Wa_find_59 : dk_at b_Wa_find 59 t_Wa_find_59 := dk_go 1 a_Wa_find_58 rfl
theorem a_Wa_find_62 : dk_at b_Wa_find 62 t_Wa_find_62 := dk_go 3 a_Wa_find_59 rfl
theorem a_Wa_find_64 : dk_at b_Wa_find 64 t_Wa_find_64 := dk_go 2 a_Wa_find_62 rfl
theorem a_Wa_find_66 : dk_at b_Wa_find 66 t_Wa_find_66 := dk_go 2 a_Wa_find_64 rfl
theorem a_Wa_find_69 : dk_at b_Wa_find 69 t_Wa_find_69 := dk_go 3 a_Wa_find_66 rfl
theorem a_Wa_find_70 : dk_at b_Wa_find 70 t_Wa_find_70 := dk_go 1 a_Wa_find_69 rfl
theorem a_Wa_find_73 : dk_at b_Wa_find 73 t_Wa_find_73 := dk_go 3 a_Wa_find_70 rfl
theorem a_Wa_find_75 : dk_at b_Wa_find 75 t_Wa_find_75 := dk_go 2 a_Wa_find_73 rfl
theorem a_Wa_find_76 : dk_at b_Wa_find 76 t_Wa_find_76 := dk_go 1 a_Wa_find_75 rfl
theorem a_Wa_find_77 : dk_at b_Wa_find 77 t_Wa_find_77 := dk_go 1 a_Wa_find_76 rfl
theorem a_Wa_find_78 : dk_at b_Wa_find 78 t_Wa_find_78 := dk_go 1 a_Wa_find_77 rfl
theorem a_Wa_find_80 : dk_at b_Wa_find 80 t_Wa_find_80 := dk_go 2 a_Wa_find_78 rfl
theorem a_Wa_find_81 : dk_at b_Wa_find 81 t_Wa_find_81 := dk_go 1 a_Wa_find_80 rfl
theorem a_Wa_find_82 : dk_at b_Wa_find 82 t_Wa_find_82 := dk_go 1 a_Wa_find_81 rfl
theorem a_Wa_find_83 : dk_at b_Wa_find 83 t_Wa_find_83 := dk_go 1 a_Wa_find_82 rfl
theorem a_Wa_find_86 : dk_at b_Wa_find 86 t_Wa_find_86 := dk_go 3 a_Wa_find_83 rfl
theorem a_Wa_find_88 : dk_at b_Wa_find 88 t_Wa_find_88 := dk_go 2 a_Wa_find_86 rfl
theorem a_Wa_find_89 : dk_at b_Wa_find 89 t_Wa_find_89 := dk_go 1 a_Wa_find_88 rfl
theorem a_Wa_find_92 : dk_at b_Wa_find 92 t_Wa_find_92 := dk_go 3 a_Wa_find_89 rfl
theorem a_Wa_find_95 : dk_at b_Wa_find 95 t_Wa_find_95 := dk_go 3 a_Wa_find_92 rfl
theorem a_Wa_find_96 : dk_at b_Wa_find 96 t_Wa_find_96 := dk_go 1 a_Wa_find_95 rfl
theorem a_Wa_find_98 : dk_at b_Wa_find 98 t_Wa_find_98 := dk_go 2 a_Wa_find_96 rfl
theorem a_Wa_find_99 : dk_at b_Wa_find 99 t_Wa_find_99 := dk_go 1 a_Wa_find_98 rfl
theorem a_Wa_find_101 : dk_at b_Wa_find 101 t_Wa_find_101 := dk_go 2 a_Wa_find_99 rfl
theorem a_Wa_find_103 : dk_at b_Wa_find 103 t_Wa_find_103 := dk_go 2 a_Wa_find_101 rfl
theorem a_Wa_find_106 : dk_at b_Wa_find 106 t_Wa_find_106 := dk_go 3 a_Wa_find_103 rfl
theorem a_Wa_find_108 : dk_at b_Wa_find 108 t_Wa_find_108 := dk_go 2 a_Wa_find_106 rfl
theorem a_Wa_find_110 : dk_at b_Wa_find 110 t_Wa_find_110 := dk_go 2 a_Wa_find_108 rfl
theorem a_Wa_find_113 : dk_at b_Wa_find 113 t_Wa_find_113 := dk_go 3 a_Wa_find_110 rfl
theorem a_Wa_find_114 : dk_at b_Wa_find 114 t_Wa_find_114 := dk_go 1 a_Wa_find_113 rfl
theorem a_Wa_find_116 : dk_at b_Wa_find 116 t_Wa_find_116 := dk_go 2 a_Wa_find_114 rfl
theorem a_Wa_find_117 : dk_at b_Wa_find 117 t_Wa_find_117 := dk_go 1 a_Wa_find_116 rfl
theorem a_Wa_find_119 : dk_at b_Wa_find 119 t_Wa_find_119 := dk_go 2 a_Wa_find_117 rfl
theorem a_Wa_find_121 : dk_at b_Wa_find 121 t_Wa_find_121 := dk_go 2 a_Wa_find_119 rfl
theorem a_Wa_find_123 : dk_at b_Wa_find 123 t_Wa_find_123 := dk_go 2 a_Wa_find_121 rfl
theorem a_Wa_find_126 : dk_at b_Wa_find 126 t_Wa_find_126 := dk_go 3 a_Wa_find_123 rfl
theorem a_Wa_find_127 : dk_at b_Wa_find 127 t_Wa_find_127 := dk_go 1 a_Wa_find_126 rfl
theorem a_Wa_find_130 : dk_at b_Wa_find 130 t_Wa_find_130 := dk_go 3 a_Wa_find_127 rfl
theorem a_Wa_find_132 : dk_at b_Wa_find 132 t_Wa_find_132 := dk_go 2 a_Wa_find_130 rfl
theorem a_Wa_find_133 : dk_at b_Wa_find 133 t_Wa_find_133 := dk_go 1 a_Wa_find_132 rfl
theorem a_Wa_find_134 : dk_at b_Wa_find 134 t_Wa_find_134 := dk_go 1 a_Wa_find_133 rfl
theorem a_Wa_find_135 : dk_at b_Wa_find 135 t_Wa_find_135 := dk_go 1 a_Wa_find_134 rfl
theorem a_Wa_find_138 : dk_at b_Wa_find 138 t_Wa_find_138 := dk_go 3 a_Wa_find_135 rfl
theorem a_Wa_find_139 : dk_at b_Wa_find 139 t_Wa_find_139 := dk_go 1 a_Wa_find_138 rfl
theorem a_Wa_find_142 : dk_at b_Wa_find 142 t_Wa_find_142 := dk_go 3 a_Wa_find_139 rfl
theorem a_Wa_find_143 : dk_at b_Wa_find 143 t_Wa_find_143 := dk_go 1 a_Wa_find_142 rfl
theorem a_Wa_find_145 : dk_at b_Wa_find 145 t_Wa_find_145 := dk_go 2 a_Wa_find_143 rfl
theorem a_Wa_find_146 : dk_at b_Wa_find 146 t_Wa_find_146 := dk_go 1 a_Wa_find_145 rfl
theorem a_Wa_find_147 : dk_at b_Wa_find 147 t_Wa_find_147 := dk_go 1 a_Wa_find_146 rfl
theorem a_Wa_find_150 : dk_at b_Wa_find 150 t_Wa_find_150 := dk_go 3 a_Wa_find_147 rfl
theorem a_Wa_find_152 : dk_at b_Wa_find 152 t_Wa_find_152 := dk_go 2 a_Wa_find_150 rfl
theorem a_Wa_find_154 : dk_at b_Wa_find 154 t_Wa_find_154 := dk_go 2 a_Wa_find_152 rfl
theorem a_Wa_find_157 : dk_at b_Wa_find 157 t_Wa_find_157 := dk_go 3 a_Wa_find_154 rfl
theorem a_Wa_find_159 : dk_at b_Wa_find 159 t_Wa_find_159 := dk_go 2 a_Wa_find_157 rfl
theorem a_Wa_find_162 : dk_at b_Wa_find 162 t_Wa_find_162 := dk_go 3 a_Wa_find_159 rfl
theorem a_Wa_find_163 : dk_at b_Wa_find 163 t_Wa_find_163 := dk_go 1 a_Wa_find_162 rfl
theorem a_Wa_find_166 : dk_at b_Wa_find 166 t_Wa_find_166 := dk_go 3 a_Wa_find_163 rfl
theorem a_Wa_find_168 : dk_at b_Wa_find 168 t_Wa_find_168 := dk_go 2 a_Wa_find_166 rfl
theorem a_Wa_find_169 : dk_at b_Wa_find 169 t_Wa_find_169 := dk_go 1 a_Wa_find_168 rfl
theorem a_Wa_find_170 : dk_at b_Wa_find 170 t_Wa_find_170 := dk_go 1 a_Wa_find_169 rfl
theorem a_Wa_find_171 : dk_at b_Wa_find 171 t_Wa_find_171 := dk_go 1 a_Wa_find_170 rfl
theorem a_Wa_find_173 : dk_at b_Wa_find 173 t_Wa_find_173 := dk_go 2 a_Wa_find_171 rfl
theorem a_Wa_find_174 : dk_at b_Wa_find 174 t_Wa_find_174 := dk_go 1 a_Wa_find_173 rfl
theorem a_Wa_find_175 : dk_at b_Wa_find 175 t_Wa_find_175 := dk_go 1 a_Wa_find_174 rfl
theorem a_Wa_find_176 : dk_at b_Wa_find 176 t_Wa_find_176 := dk_go 1 a_Wa_find_175 rfl
theorem a_Wa_find_177 : dk_at b_Wa_find 177 t_Wa_find_177 := dk_go 1 a_Wa_find_176 rfl
theorem a_Wa_find_180 : dk_at b_Wa_find 180 t_Wa_find_180 := dk_go 3 a_Wa_find_177 rfl
theorem a_Wa_find_182 : dk_at b_Wa_find 182 t_Wa_find_182 := dk_go 2 a_Wa_find_180 rfl
theorem a_Wa_find_183 : dk_at b_Wa_find 183 t_Wa_find_183 := dk_go 1 a_Wa_find_182 rfl
theorem a_Wa_find_184 : dk_at b_Wa_find 184 t_Wa_find_184 := dk_go 1 a_Wa_find_183 rfl
theorem a_Wa_find_186 : dk_at b_Wa_find 186 t_Wa_find_186 := dk_go 2 a_Wa_find_184 rfl
theorem a_Wa_find_188 : dk_at b_Wa_find 188 t_Wa_find_188 := dk_go 2 a_Wa_find_186 rfl
theorem a_Wa_find_189 : dk_at b_Wa_find 189 t_Wa_find_189 := dk_go 1 a_Wa_find_188 rfl
theorem a_Wa_find_192 : dk_at b_Wa_find 192 t_Wa_find_192 := dk_go 3 a_Wa_find_189 rfl
theorem a_Wa_find_194 : dk_at b_Wa_find 194 t_Wa_find_194 := dk_go 2 a_Wa_find_192 rfl
theorem a_Wa_find_195 : dk_at b_Wa_find 195 t_Wa_find_195 := dk_go 1 a_Wa_find_194 rfl
theorem a_Wa_find_198 : dk_at b_Wa_find 198 t_Wa_find_198 := dk_go 3 a_Wa_find_195 rfl
theorem a_Wa_find_199 : dk_at b_Wa_find 199 t_Wa_find_199 := dk_go 1 a_Wa_find_198 rfl
theorem a_Wa_find_202 : dk_at b_Wa_find 202 t_Wa_find_202 := dk_go 3 a_Wa_find_199 rfl
theorem a_Wa_find_204 : dk_at b_Wa_find 204 t_Wa_find_204 := dk_go 2 a_Wa_find_202 rfl
theorem a_Wa_find_206 : dk_at b_Wa_find 206 t_Wa_find_206 := dk_go 2 a_Wa_find_204 rfl
theorem a_Wa_find_207 : dk_at b_Wa_find 207 t_Wa_find_207 := dk_go 1 a_Wa_find_206 rfl
theorem a_Wa_find_208 : dk_at b_Wa_find 208 t_Wa_find_208 := dk_go 1 a_Wa_find_207 rfl
theorem a_Wa_find_210 : dk_at b_Wa_find 210 t_Wa_find_210 := dk_go 2 a_Wa_find_208 rfl
theorem a_Wa_find_213 : dk_at b_Wa_find 213 t_Wa_find_213 := dk_go 3 a_Wa_find_210 rfl
theorem a_Wa_find_216 : dk_at b_Wa_find 216 t_Wa_find_216 := dk_go 3 a_Wa_find_213 rfl
theorem a_Wa_find_219 : dk_at b_Wa_find 219 t_Wa_find_219 := dk_go 3 a_Wa_find_216 rfl
theorem a_Wa_find_222 : dk_at b_Wa_find 222 t_Wa_find_222 := dk_go 3 a_Wa_find_219 rfl
theorem a_Wa_find_223 : dk_at b_Wa_find 223 t_Wa_find_223 := dk_go 1 a_Wa_find_222 rfl
theorem a_Wa_find_224 : dk_at b_Wa_find 224 t_Wa_find_224 := dk_go 1 a_Wa_find_223 rfl
theorem a_Wa_find_227 : dk_at b_Wa_find 227 t_Wa_find_227 := dk_go 3 a_Wa_find_224 rfl
theorem a_Wa_find_229 : dk_at b_Wa_find 229 t_Wa_find_229 := dk_go 2 a_Wa_find_227 rfl
theorem a_Wa_find_230 : dk_at b_Wa_find 230 t_Wa_find_230 := dk_go 1 a_Wa_find_229 rfl
theorem a_Wa_find_231 : dk_at b_Wa_find 231 t_Wa_find_231 := dk_go 1 a_Wa_find_230 rfl
theorem a_Wa_find_234 : dk_at b_Wa_find 234 t_Wa_find_234 := dk_go 3 a_Wa_find_231 rfl
theorem a_Wa_find_236 : dk_at b_Wa_find 236 t_Wa_find_236 := dk_go 2 a_Wa_find_234 rfl
theorem a_Wa_find_239 : dk_at b_Wa_find 239 t_Wa_find_239 := dk_go 3 a_Wa_find_236 rfl
theorem a_Wa_find_240 : dk_at b_Wa_find 240 t_Wa_find_240 := dk_go 1 a_Wa_find_239 rfl
theorem a_Wa_find_243 : dk_at b_Wa_find 243 t_Wa_find_243 := dk_go 3 a_Wa_find_240 rfl
theorem a_Wa_find_245 : dk_at b_Wa_find 245 t_Wa_find_245 := dk_go 2 a_Wa_find_243 rfl
theorem a_Wa_find_248 : dk_at b_Wa_find 248 t_Wa_find_248 := dk_go 3 a_Wa_find_245 rfl
theorem a_Wa_find_250 : dk_at b_Wa_find 250 t_Wa_find_250 := dk_go 2 a_Wa_find_248 rfl
theorem a_Wa_find_251 : dk_at b_Wa_find 251 t_Wa_find_251 := dk_go 1 a_Wa_find_250 rfl
theorem a_Wa_find_252 : dk_at b_Wa_find 252 t_Wa_find_252 := dk_go 1 a_Wa_find_251 rfl
theorem a_Wa_find_254 : dk_at b_Wa_find 254 t_Wa_find_254 := dk_go 2 a_Wa_find_252 rfl
theorem a_Wa_find_255 : dk_at b_Wa_find 255 t_Wa_find_255 := dk_go 1 a_Wa_find_254 rfl
theorem a_Wa_find_258 : dk_at b_Wa_find 258 t_Wa_find_258 := dk_go 3 a_Wa_find_255 rfl
theorem a_Wa_find_259 : dk_at b_Wa_find 259 t_Wa_find_259 := dk_go 1 a_Wa_find_258 rfl
theorem a_Wa_find_262 : dk_at b_Wa_find 262 t_Wa_find_262 := dk_go 3 a_Wa_find_259 rfl
theorem a_Wa_find_264 : dk_at b_Wa_find 264 t_Wa_find_264 := dk_go 2 a_Wa_find_262 rfl
theorem a_Wa_find_265 : dk_at b_Wa_find 265 t_Wa_find_265 := dk_go 1 a_Wa_find_264 rfl
theorem a_Wa_find_266 : dk_at b_Wa_find 266 t_Wa_find_266 := dk_go 1 a_Wa_find_265 rfl
theorem a_Wa_find_267 : dk_at b_Wa_find 267 t_Wa_find_267 := dk_go 1 a_Wa_find_266 rfl
theorem a_Wa_find_270 : dk_at b_Wa_find 270 t_Wa_find_270 := dk_go 3 a_Wa_find_267 rfl
theorem a_Wa_find_271 : dk_at b_Wa_find 271 t_Wa_find_271 := dk_go 1 a_Wa_find_270 rfl
theorem a_Wa_find_272 : dk_at b_Wa_find 272 t_Wa_find_272 := dk_go 1 a_Wa_find_271 rfl
theorem a_Wa_find_275 : dk_at b_Wa_find 275 t_Wa_find_275 := dk_go 3 a_Wa_find_272 rfl
theorem a_Wa_find_276 : dk_at b_Wa_find 276 t_Wa_find_276 := dk_go 1 a_Wa_find_275 rfl
theorem a_Wa_find_279 : dk_at b_Wa_find 279 t_Wa_find_279 := dk_go 3 a_Wa_find_276 rfl
theorem a_Wa_find_281 : dk_at b_Wa_find 281 t_Wa_find_281 := dk_go 2 a_Wa_find_279 rfl
theorem a_Wa_find_282 : dk_at b_Wa_find 282 t_Wa_find_282 := dk_go 1 a_Wa_find_281 rfl
theorem a_Wa_find_283 : dk_at b_Wa_find 283 t_Wa_find_283 := dk_go 1 a_Wa_find_282 rfl
theorem a_Wa_find_286 : dk_at b_Wa_find 286 t_Wa_find_286 := dk_go 3 a_Wa_find_283 rfl
theorem a_Wa_find_287 : dk_at b_Wa_find 287 t_Wa_find_287 := dk_go 1 a_Wa_find_286 rfl
theorem a_Wa_find_290 : dk_at b_Wa_find 290 t_Wa_find_290 := dk_go 3 a_Wa_find_287 rfl
theorem a_Wa_find_291 : dk_at b_Wa_find 291 t_Wa_find_291 := dk_go 1 a_Wa_find_290 rfl
theorem a_Wa_find_293 : dk_at b_Wa_find 293 t_Wa_find_293 := dk_go 2 a_Wa_find_291 rfl
theorem a_Wa_find_296 : dk_at b_Wa_find 296 t_Wa_find_296 := dk_go 3 a_Wa_find_293 rfl
theorem a_Wa_find_298 : dk_at b_Wa_find 298 t_Wa_find_298 := dk_go 2 a_Wa_find_296 rfl
theorem a_Wa_find_301 : dk_at b_Wa_find 301 t_Wa_find_301 := dk_go 3 a_Wa_find_298 rfl
theorem a_Wa_find_302 : dk_at b_Wa_find 302 t_Wa_find_302 := dk_go 1 a_Wa_find_301 rfl
theorem a_Wa_find_305 : dk_at b_Wa_find 305 t_Wa_find_305 := dk_go 3 a_Wa_find_302 rfl
theorem a_Wa_find_308 : dk_at b_Wa_find 308 t_Wa_find_308 := dk_go 3 a_Wa_find_305 rfl
theorem a_Wa_find_309 : dk_at b_Wa_find 309 t_Wa_find_309 := dk_go 1 a_Wa_find_308 rfl
theorem a_Wa_find_312 : dk_at b_Wa_find 312 t_Wa_find_312 := dk_go 3 a_Wa_find_309 rfl
theorem a_Wa_find_313 : dk_at b_Wa_find 313 t_Wa_find_313 := dk_go 1 a_Wa_find_312 rfl
theorem d_Wa_find_0 : decode b_Wa_find 0 = .ok (.aload_n 0, 1) := dk_0 a_Wa_find_0 (dko_42 _)
theorem d_Wa_find_1 : decode b_Wa_find 1 = .ok (.getfield 58, 3) := dk_U2 a_Wa_find_1 (dko_180 _) rfl
theorem d_Wa_find_4 : decode b_Wa_find 4 = .ok (.getfield 81, 3) := dk_U2 a_Wa_find_4 (dko_180 _) rfl
theorem d_Wa_find_7 : decode b_Wa_find 7 = .ok (.astore_n 3, 1) := dk_0 a_Wa_find_7 (dko_78 _)
theorem d_Wa_find_8 : decode b_Wa_find 8 = .ok (.iconst 2, 1) := dk_0 a_Wa_find_8 (dko_5 _)
theorem d_Wa_find_9 : decode b_Wa_find 9 = .ok (.aload_n 3, 1) := dk_0 a_Wa_find_9 (dko_45 _)
theorem d_Wa_find_10 : decode b_Wa_find 10 = .ok (.getfield 90, 3) := dk_U2 a_Wa_find_10 (dko_180 _) rfl
theorem d_Wa_find_13 : decode b_Wa_find 13 = .ok (.imul, 1) := dk_0 a_Wa_find_13 (dko_104 _)
theorem d_Wa_find_14 : decode b_Wa_find 14 = .ok (.istore 4, 2) := dk_U1 a_Wa_find_14 (dko_54 _) rfl
theorem d_Wa_find_16 : decode b_Wa_find 16 = .ok (.iconst 0, 1) := dk_0 a_Wa_find_16 (dko_3 _)
theorem d_Wa_find_17 : decode b_Wa_find 17 = .ok (.istore 5, 2) := dk_U1 a_Wa_find_17 (dko_54 _) rfl
theorem d_Wa_find_19 : decode b_Wa_find 19 = .ok (.iload 5, 2) := dk_U1 a_Wa_find_19 (dko_21 _) rfl
theorem d_Wa_find_21 : decode b_Wa_find 21 = .ok (.iload 4, 2) := dk_U1 a_Wa_find_21 (dko_21 _) rfl
theorem d_Wa_find_23 : decode b_Wa_find 23 = .ok (.if_icmp .ge 72, 3) := dk_S2 a_Wa_find_23 (dko_162 _) (by decide +kernel)
theorem d_Wa_find_26 : decode b_Wa_find 26 = .ok (.aload_n 3, 1) := dk_0 a_Wa_find_26 (dko_45 _)
theorem d_Wa_find_27 : decode b_Wa_find 27 = .ok (.getfield 93, 3) := dk_U2 a_Wa_find_27 (dko_180 _) rfl
theorem d_Wa_find_30 : decode b_Wa_find 30 = .ok (.iload 5, 2) := dk_U1 a_Wa_find_30 (dko_21 _) rfl
theorem d_Wa_find_32 : decode b_Wa_find 32 = .ok (.iconst 1, 1) := dk_0 a_Wa_find_32 (dko_4 _)
theorem d_Wa_find_33 : decode b_Wa_find 33 = .ok (.ixor, 1) := dk_0 a_Wa_find_33 (dko_130 _)
theorem d_Wa_find_34 : decode b_Wa_find 34 = .ok (.iaload, 1) := dk_0 a_Wa_find_34 (dko_46 _)
theorem d_Wa_find_35 : decode b_Wa_find 35 = .ok (.iload_n 2, 1) := dk_0 a_Wa_find_35 (dko_28 _)
theorem d_Wa_find_36 : decode b_Wa_find 36 = .ok (.if_icmp .ne 19, 3) := dk_S2 a_Wa_find_36 (dko_160 _) (by decide +kernel)
theorem d_Wa_find_39 : decode b_Wa_find 39 = .ok (.aload_n 0, 1) := dk_0 a_Wa_find_39 (dko_42 _)
theorem d_Wa_find_40 : decode b_Wa_find 40 = .ok (.getfield 39, 3) := dk_U2 a_Wa_find_40 (dko_180 _) rfl
theorem d_Wa_find_43 : decode b_Wa_find 43 = .ok (.iload 5, 2) := dk_U1 a_Wa_find_43 (dko_21 _) rfl
theorem d_Wa_find_45 : decode b_Wa_find 45 = .ok (.iconst 1, 1) := dk_0 a_Wa_find_45 (dko_4 _)
theorem d_Wa_find_46 : decode b_Wa_find 46 = .ok (.ishr, 1) := dk_0 a_Wa_find_46 (dko_122 _)
theorem d_Wa_find_47 : decode b_Wa_find 47 = .ok (.baload, 1) := dk_0 a_Wa_find_47 (dko_51 _)
theorem d_Wa_find_48 : decode b_Wa_find 48 = .ok (.ifCond .ne 7, 3) := dk_S2 a_Wa_find_48 (dko_154 _) (by decide +kernel)
theorem d_Wa_find_51 : decode b_Wa_find 51 = .ok (.iconst 1, 1) := dk_0 a_Wa_find_51 (dko_4 _)
theorem d_Wa_find_52 : decode b_Wa_find 52 = .ok (.goto 4, 3) := dk_S2 a_Wa_find_52 (dko_167 _) (by decide +kernel)
theorem d_Wa_find_55 : decode b_Wa_find 55 = .ok (.iconst 0, 1) := dk_0 a_Wa_find_55 (dko_3 _)
theorem d_Wa_find_56 : decode b_Wa_find 56 = .ok (.istore 6, 2) := dk_U1 a_Wa_find_56 (dko_54 _) rfl
theorem d_Wa_find_58 : decode b_Wa_find 58 = .ok (.aload_n 0, 1) := dk_0 a_Wa_find_58 (dko_42 _)
theorem d_Wa_find_59 : decode b_Wa_find 59 = .ok (.getfield 46, 3) := dk_U2 a_Wa_find_59 (dko_180 _) rfl
theorem d_Wa_find_62 : decode b_Wa_find 62 = .ok (.iload 5, 2) := dk_U1 a_Wa_find_62 (dko_21 _) rfl
theorem d_Wa_find_64 : decode b_Wa_find 64 = .ok (.iload 6, 2) := dk_U1 a_Wa_find_64 (dko_21 _) rfl
theorem d_Wa_find_66 : decode b_Wa_find 66 = .ok (.ifCond .eq 20, 3) := dk_S2 a_Wa_find_66 (dko_153 _) (by decide +kernel)
theorem d_Wa_find_69 : decode b_Wa_find 69 = .ok (.aload_n 3, 1) := dk_0 a_Wa_find_69 (dko_45 _)
theorem d_Wa_find_70 : decode b_Wa_find 70 = .ok (.getfield 96, 3) := dk_U2 a_Wa_find_70 (dko_180 _) rfl
theorem d_Wa_find_73 : decode b_Wa_find 73 = .ok (.iload 5, 2) := dk_U1 a_Wa_find_73 (dko_21 _) rfl
theorem d_Wa_find_75 : decode b_Wa_find 75 = .ok (.iconst 1, 1) := dk_0 a_Wa_find_75 (dko_4 _)
theorem d_Wa_find_76 : decode b_Wa_find 76 = .ok (.ishr, 1) := dk_0 a_Wa_find_76 (dko_122 _)
theorem d_Wa_find_77 : decode b_Wa_find 77 = .ok (.iaload, 1) := dk_0 a_Wa_find_77 (dko_46 _)
theorem d_Wa_find_78 : decode b_Wa_find 78 = .ok (.bipush 32, 2) := dk_S1 a_Wa_find_78 (dko_16 _) (by decide +kernel)
theorem d_Wa_find_80 : decode b_Wa_find 80 = .ok (.imul, 1) := dk_0 a_Wa_find_80 (dko_104 _)
theorem d_Wa_find_81 : decode b_Wa_find 81 = .ok (.iconst 1, 1) := dk_0 a_Wa_find_81 (dko_4 _)
theorem d_Wa_find_82 : decode b_Wa_find 82 = .ok (.iadd, 1) := dk_0 a_Wa_find_82 (dko_96 _)
theorem d_Wa_find_83 : decode b_Wa_find 83 = .ok (.goto 5, 3) := dk_S2 a_Wa_find_83 (dko_167 _) (by decide +kernel)
theorem d_Wa_find_86 : decode b_Wa_find 86 = .ok (.ldc 99, 2) := dk_U1 a_Wa_find_86 (dko_18 _) rfl
theorem d_Wa_find_88 : decode b_Wa_find 88 = .ok (.iastore, 1) := dk_0 a_Wa_find_88 (dko_79 _)
theorem d_Wa_find_89 : decode b_Wa_find 89 = .ok (.iinc 5 1, 3) := dk_US a_Wa_find_89 (dko_132 _) (by decide +kernel)
theorem d_Wa_find_92 : decode b_Wa_find 92 = .ok (.goto (-73), 3) := dk_S2 a_Wa_find_92 (dko_167 _) (by decide +kernel)
theorem d_Wa_find_95 : decode b_Wa_find 95 = .ok (.iconst 1, 1) := dk_0 a_Wa_find_95 (dko_4 _)
theorem d_Wa_find_96 : decode b_Wa_find 96 = .ok (.istore 5, 2) := dk_U1 a_Wa_find_96 (dko_54 _) rfl
theorem d_Wa_find_98 : decode b_Wa_find 98 = .ok (.iconst 0, 1) := dk_0 a_Wa_find_98 (dko_3 _)
theorem d_Wa_find_99 : decode b_Wa_find 99 = .ok (.istore 6, 2) := dk_U1 a_Wa_find_99 (dko_54 _) rfl
theorem d_Wa_find_101 : decode b_Wa_find 101 = .ok (.iload 5, 2) := dk_U1 a_Wa_find_101 (dko_21 _) rfl
theorem d_Wa_find_103 : decode b_Wa_find 103 = .ok (.ifCond .eq 119, 3) := dk_S2 a_Wa_find_103 (dko_153 _) (by decide +kernel)
theorem d_Wa_find_106 : decode b_Wa_find 106 = .ok (.iload 6, 2) := dk_U1 a_Wa_find_106 (dko_21 _) rfl
theorem d_Wa_find_108 : decode b_Wa_find 108 = .ok (.iload 4, 2) := dk_U1 a_Wa_find_108 (dko_21 _) rfl
theorem d_Wa_find_110 : decode b_Wa_find 110 = .ok (.if_icmp .gt 112, 3) := dk_S2 a_Wa_find_110 (dko_163 _) (by decide +kernel)
theorem d_Wa_find_113 : decode b_Wa_find 113 = .ok (.iconst 0, 1) := dk_0 a_Wa_find_113 (dko_3 _)
theorem d_Wa_find_114 : decode b_Wa_find 114 = .ok (.istore 5, 2) := dk_U1 a_Wa_find_114 (dko_54 _) rfl
theorem d_Wa_find_116 : decode b_Wa_find 116 = .ok (.iconst 0, 1) := dk_0 a_Wa_find_116 (dko_3 _)
theorem d_Wa_find_117 : decode b_Wa_find 117 = .ok (.istore 7, 2) := dk_U1 a_Wa_find_117 (dko_54 _) rfl
theorem d_Wa_find_119 : decode b_Wa_find 119 = .ok (.iload 7, 2) := dk_U1 a_Wa_find_119 (dko_21 _) rfl
theorem d_Wa_find_121 : decode b_Wa_find 121 = .ok (.iload 4, 2) := dk_U1 a_Wa_find_121 (dko_21 _) rfl
theorem d_Wa_find_123 : decode b_Wa_find 123 = .ok (.if_icmp .ge 93, 3) := dk_S2 a_Wa_find_123 (dko_162 _) (by decide +kernel)
theorem d_Wa_find_126 : decode b_Wa_find 126 = .ok (.aload_n 0, 1) := dk_0 a_Wa_find_126 (dko_42 _)
theorem d_Wa_find_127 : decode b_Wa_find 127 = .ok (.getfield 39, 3) := dk_U2 a_Wa_find_127 (dko_180 _) rfl
theorem d_Wa_find_130 : decode b_Wa_find 130 = .ok (.iload 7, 2) := dk_U1 a_Wa_find_130 (dko_21 _) rfl
theorem d_Wa_find_132 : decode b_Wa_find 132 = .ok (.iconst 1, 1) := dk_0 a_Wa_find_132 (dko_4 _)
theorem d_Wa_find_133 : decode b_Wa_find 133 = .ok (.ishr, 1) := dk_0 a_Wa_find_133 (dko_122 _)
theorem d_Wa_find_134 : decode b_Wa_find 134 = .ok (.baload, 1) := dk_0 a_Wa_find_134 (dko_51 _)
theorem d_Wa_find_135 : decode b_Wa_find 135 = .ok (.ifCond .eq 7, 3) := dk_S2 a_Wa_find_135 (dko_153 _) (by decide +kernel)
theorem d_Wa_find_138 : decode b_Wa_find 138 = .ok (.iconst (-1), 1) := dk_0 a_Wa_find_138 (dko_2 _)
theorem d_Wa_find_139 : decode b_Wa_find 139 = .ok (.goto 11, 3) := dk_S2 a_Wa_find_139 (dko_167 _) (by decide +kernel)
theorem d_Wa_find_142 : decode b_Wa_find 142 = .ok (.aload_n 0, 1) := dk_0 a_Wa_find_142 (dko_42 _)
theorem d_Wa_find_143 : decode b_Wa_find 143 = .ok (.iload 7, 2) := dk_U1 a_Wa_find_143 (dko_21 _) rfl
theorem d_Wa_find_145 : decode b_Wa_find 145 = .ok (.iconst 1, 1) := dk_0 a_Wa_find_145 (dko_4 _)
theorem d_Wa_find_146 : decode b_Wa_find 146 = .ok (.ixor, 1) := dk_0 a_Wa_find_146 (dko_130 _)
theorem d_Wa_find_147 : decode b_Wa_find 147 = .ok (.invokevirtual 100, 3) := dk_U2 a_Wa_find_147 (dko_182 _) rfl
theorem d_Wa_find_150 : decode b_Wa_find 150 = .ok (.istore 8, 2) := dk_U1 a_Wa_find_150 (dko_54 _) rfl
theorem d_Wa_find_152 : decode b_Wa_find 152 = .ok (.iload 8, 2) := dk_U1 a_Wa_find_152 (dko_21 _) rfl
theorem d_Wa_find_154 : decode b_Wa_find 154 = .ok (.ifCond .ge 8, 3) := dk_S2 a_Wa_find_154 (dko_156 _) (by decide +kernel)
theorem d_Wa_find_157 : decode b_Wa_find 157 = .ok (.ldc 99, 2) := dk_U1 a_Wa_find_157 (dko_18 _) rfl
theorem d_Wa_find_159 : decode b_Wa_find 159 = .ok (.goto 25, 3) := dk_S2 a_Wa_find_159 (dko_167 _) (by decide +kernel)
theorem d_Wa_find_162 : decode b_Wa_find 162 = .ok (.aload_n 3, 1) := dk_0 a_Wa_find_162 (dko_45 _)
theorem d_Wa_find_163 : decode b_Wa_find 163 = .ok (.getfield 96, 3) := dk_U2 a_Wa_find_163 (dko_180 _) rfl
theorem d_Wa_find_166 : decode b_Wa_find 166 = .ok (.iload 7, 2) := dk_U1 a_Wa_find_166 (dko_21 _) rfl
theorem d_Wa_find_168 : decode b_Wa_find 168 = .ok (.iconst 1, 1) := dk_0 a_Wa_find_168 (dko_4 _)
theorem d_Wa_find_169 : decode b_Wa_find 169 = .ok (.ishr, 1) := dk_0 a_Wa_find_169 (dko_122 _)
theorem d_Wa_find_170 : decode b_Wa_find 170 = .ok (.iaload, 1) := dk_0 a_Wa_find_170 (dko_46 _)
theorem d_Wa_find_171 : decode b_Wa_find 171 = .ok (.bipush 32, 2) := dk_S1 a_Wa_find_171 (dko_16 _) (by decide +kernel)
theorem d_Wa_find_173 : decode b_Wa_find 173 = .ok (.imul, 1) := dk_0 a_Wa_find_173 (dko_104 _)
theorem d_Wa_find_174 : decode b_Wa_find 174 = .ok (.iconst 1, 1) := dk_0 a_Wa_find_174 (dko_4 _)
theorem d_Wa_find_175 : decode b_Wa_find 175 = .ok (.iadd, 1) := dk_0 a_Wa_find_175 (dko_96 _)
theorem d_Wa_find_176 : decode b_Wa_find 176 = .ok (.aload_n 0, 1) := dk_0 a_Wa_find_176 (dko_42 _)
theorem d_Wa_find_177 : decode b_Wa_find 177 = .ok (.getfield 46, 3) := dk_U2 a_Wa_find_177 (dko_180 _) rfl
theorem d_Wa_find_180 : decode b_Wa_find 180 = .ok (.iload 8, 2) := dk_U1 a_Wa_find_180 (dko_21 _) rfl
theorem d_Wa_find_182 : decode b_Wa_find 182 = .ok (.iaload, 1) := dk_0 a_Wa_find_182 (dko_46 _)
theorem d_Wa_find_183 : decode b_Wa_find 183 = .ok (.iadd, 1) := dk_0 a_Wa_find_183 (dko_96 _)
theorem d_Wa_find_184 : decode b_Wa_find 184 = .ok (.istore 9, 2) := dk_U1 a_Wa_find_184 (dko_54 _) rfl
theorem d_Wa_find_186 : decode b_Wa_find 186 = .ok (.iload 9, 2) := dk_U1 a_Wa_find_186 (dko_21 _) rfl
theorem d_Wa_find_188 : decode b_Wa_find 188 = .ok (.aload_n 0, 1) := dk_0 a_Wa_find_188 (dko_42 _)
theorem d_Wa_find_189 : decode b_Wa_find 189 = .ok (.getfield 46, 3) := dk_U2 a_Wa_find_189 (dko_180 _) rfl
theorem d_Wa_find_192 : decode b_Wa_find 192 = .ok (.iload 7, 2) := dk_U1 a_Wa_find_192 (dko_21 _) rfl
theorem d_Wa_find_194 : decode b_Wa_find 194 = .ok (.iaload, 1) := dk_0 a_Wa_find_194 (dko_46 _)
theorem d_Wa_find_195 : decode b_Wa_find 195 = .ok (.if_icmp .ge 15, 3) := dk_S2 a_Wa_find_195 (dko_162 _) (by decide +kernel)
theorem d_Wa_find_198 : decode b_Wa_find 198 = .ok (.aload_n 0, 1) := dk_0 a_Wa_find_198 (dko_42 _)
theorem d_Wa_find_199 : decode b_Wa_find 199 = .ok (.getfield 46, 3) := dk_U2 a_Wa_find_199 (dko_180 _) rfl
theorem d_Wa_find_202 : decode b_Wa_find 202 = .ok (.iload 7, 2) := dk_U1 a_Wa_find_202 (dko_21 _) rfl
theorem d_Wa_find_204 : decode b_Wa_find 204 = .ok (.iload 9, 2) := dk_U1 a_Wa_find_204 (dko_21 _) rfl
theorem d_Wa_find_206 : decode b_Wa_find 206 = .ok (.iastore, 1) := dk_0 a_Wa_find_206 (dko_79 _)
theorem d_Wa_find_207 : decode b_Wa_find 207 = .ok (.iconst 1, 1) := dk_0 a_Wa_find_207 (dko_4 _)
theorem d_Wa_find_208 : decode b_Wa_find 208 = .ok (.istore 5, 2) := dk_U1 a_Wa_find_208 (dko_54 _) rfl
theorem d_Wa_find_210 : decode b_Wa_find 210 = .ok (.iinc 7 1, 3) := dk_US a_Wa_find_210 (dko_132 _) (by decide +kernel)
theorem d_Wa_find_213 : decode b_Wa_find 213 = .ok (.goto (-94), 3) := dk_S2 a_Wa_find_213 (dko_167 _) (by decide +kernel)
theorem d_Wa_find_216 : decode b_Wa_find 216 = .ok (.iinc 6 1, 3) := dk_US a_Wa_find_216 (dko_132 _) (by decide +kernel)
theorem d_Wa_find_219 : decode b_Wa_find 219 = .ok (.goto (-118), 3) := dk_S2 a_Wa_find_219 (dko_167 _) (by decide +kernel)
theorem d_Wa_find_222 : decode b_Wa_find 222 = .ok (.aload_n 0, 1) := dk_0 a_Wa_find_222 (dko_42 _)
theorem d_Wa_find_223 : decode b_Wa_find 223 = .ok (.iload_n 1, 1) := dk_0 a_Wa_find_223 (dko_27 _)
theorem d_Wa_find_224 : decode b_Wa_find 224 = .ok (.invokevirtual 104, 3) := dk_U2 a_Wa_find_224 (dko_182 _) rfl
theorem d_Wa_find_227 : decode b_Wa_find 227 = .ok (.istore 6, 2) := dk_U1 a_Wa_find_227 (dko_54 _) rfl
theorem d_Wa_find_229 : decode b_Wa_find 229 = .ok (.aload_n 0, 1) := dk_0 a_Wa_find_229 (dko_42 _)
theorem d_Wa_find_230 : decode b_Wa_find 230 = .ok (.iconst 0, 1) := dk_0 a_Wa_find_230 (dko_3 _)
theorem d_Wa_find_231 : decode b_Wa_find 231 = .ok (.putfield 107, 3) := dk_U2 a_Wa_find_231 (dko_181 _) rfl
theorem d_Wa_find_234 : decode b_Wa_find 234 = .ok (.iload 6, 2) := dk_U1 a_Wa_find_234 (dko_21 _) rfl
theorem d_Wa_find_236 : decode b_Wa_find 236 = .ok (.ifCond .lt 65, 3) := dk_S2 a_Wa_find_236 (dko_155 _) (by decide +kernel)
theorem d_Wa_find_239 : decode b_Wa_find 239 = .ok (.aload_n 0, 1) := dk_0 a_Wa_find_239 (dko_42 _)
theorem d_Wa_find_240 : decode b_Wa_find 240 = .ok (.getfield 107, 3) := dk_U2 a_Wa_find_240 (dko_180 _) rfl
theorem d_Wa_find_243 : decode b_Wa_find 243 = .ok (.bipush 24, 2) := dk_S1 a_Wa_find_243 (dko_16 _) (by decide +kernel)
theorem d_Wa_find_245 : decode b_Wa_find 245 = .ok (.if_icmp .ge 56, 3) := dk_S2 a_Wa_find_245 (dko_162 _) (by decide +kernel)
theorem d_Wa_find_248 : decode b_Wa_find 248 = .ok (.iload 6, 2) := dk_U1 a_Wa_find_248 (dko_21 _) rfl
theorem d_Wa_find_250 : decode b_Wa_find 250 = .ok (.iconst 1, 1) := dk_0 a_Wa_find_250 (dko_4 _)
theorem d_Wa_find_251 : decode b_Wa_find 251 = .ok (.ixor, 1) := dk_0 a_Wa_find_251 (dko_130 _)
theorem d_Wa_find_252 : decode b_Wa_find 252 = .ok (.istore 7, 2) := dk_U1 a_Wa_find_252 (dko_54 _) rfl
theorem d_Wa_find_254 : decode b_Wa_find 254 = .ok (.aload_n 0, 1) := dk_0 a_Wa_find_254 (dko_42 _)
theorem d_Wa_find_255 : decode b_Wa_find 255 = .ok (.getfield 49, 3) := dk_U2 a_Wa_find_255 (dko_180 _) rfl
theorem d_Wa_find_258 : decode b_Wa_find 258 = .ok (.aload_n 0, 1) := dk_0 a_Wa_find_258 (dko_42 _)
theorem d_Wa_find_259 : decode b_Wa_find 259 = .ok (.getfield 107, 3) := dk_U2 a_Wa_find_259 (dko_180 _) rfl
theorem d_Wa_find_262 : decode b_Wa_find 262 = .ok (.iload 7, 2) := dk_U1 a_Wa_find_262 (dko_21 _) rfl
theorem d_Wa_find_264 : decode b_Wa_find 264 = .ok (.iastore, 1) := dk_0 a_Wa_find_264 (dko_79 _)
theorem d_Wa_find_265 : decode b_Wa_find 265 = .ok (.aload_n 0, 1) := dk_0 a_Wa_find_265 (dko_42 _)
theorem d_Wa_find_266 : decode b_Wa_find 266 = .ok (.dup, 1) := dk_0 a_Wa_find_266 (dko_89 _)
theorem d_Wa_find_267 : decode b_Wa_find 267 = .ok (.getfield 107, 3) := dk_U2 a_Wa_find_267 (dko_180 _) rfl
theorem d_Wa_find_270 : decode b_Wa_find 270 = .ok (.iconst 1, 1) := dk_0 a_Wa_find_270 (dko_4 _)
theorem d_Wa_find_271 : decode b_Wa_find 271 = .ok (.iadd, 1) := dk_0 a_Wa_find_271 (dko_96 _)
theorem d_Wa_find_272 : decode b_Wa_find 272 = .ok (.putfield 107, 3) := dk_U2 a_Wa_find_272 (dko_181 _) rfl
theorem d_Wa_find_275 : decode b_Wa_find 275 = .ok (.aload_n 3, 1) := dk_0 a_Wa_find_275 (dko_45 _)
theorem d_Wa_find_276 : decode b_Wa_find 276 = .ok (.getfield 93, 3) := dk_U2 a_Wa_find_276 (dko_180 _) rfl
theorem d_Wa_find_279 : decode b_Wa_find 279 = .ok (.iload 7, 2) := dk_U1 a_Wa_find_279 (dko_21 _) rfl
theorem d_Wa_find_281 : decode b_Wa_find 281 = .ok (.iaload, 1) := dk_0 a_Wa_find_281 (dko_46 _)
theorem d_Wa_find_282 : decode b_Wa_find 282 = .ok (.iload_n 2, 1) := dk_0 a_Wa_find_282 (dko_28 _)
theorem d_Wa_find_283 : decode b_Wa_find 283 = .ok (.if_icmp .ne 7, 3) := dk_S2 a_Wa_find_283 (dko_160 _) (by decide +kernel)
theorem d_Wa_find_286 : decode b_Wa_find 286 = .ok (.iconst (-1), 1) := dk_0 a_Wa_find_286 (dko_2 _)
theorem d_Wa_find_287 : decode b_Wa_find 287 = .ok (.goto 9, 3) := dk_S2 a_Wa_find_287 (dko_167 _) (by decide +kernel)
theorem d_Wa_find_290 : decode b_Wa_find 290 = .ok (.aload_n 0, 1) := dk_0 a_Wa_find_290 (dko_42 _)
theorem d_Wa_find_291 : decode b_Wa_find 291 = .ok (.iload 7, 2) := dk_U1 a_Wa_find_291 (dko_21 _) rfl
theorem d_Wa_find_293 : decode b_Wa_find 293 = .ok (.invokevirtual 100, 3) := dk_U2 a_Wa_find_293 (dko_182 _) rfl
theorem d_Wa_find_296 : decode b_Wa_find 296 = .ok (.istore 6, 2) := dk_U1 a_Wa_find_296 (dko_54 _) rfl
theorem d_Wa_find_298 : decode b_Wa_find 298 = .ok (.goto (-64), 3) := dk_S2 a_Wa_find_298 (dko_167 _) (by decide +kernel)
theorem d_Wa_find_301 : decode b_Wa_find 301 = .ok (.aload_n 0, 1) := dk_0 a_Wa_find_301 (dko_42 _)
theorem d_Wa_find_302 : decode b_Wa_find 302 = .ok (.getfield 107, 3) := dk_U2 a_Wa_find_302 (dko_180 _) rfl
theorem d_Wa_find_305 : decode b_Wa_find 305 = .ok (.ifCond .le 7, 3) := dk_S2 a_Wa_find_305 (dko_158 _) (by decide +kernel)
theorem d_Wa_find_308 : decode b_Wa_find 308 = .ok (.iconst 1, 1) := dk_0 a_Wa_find_308 (dko_4 _)
theorem d_Wa_find_309 : decode b_Wa_find 309 = .ok (.goto 4, 3) := dk_S2 a_Wa_find_309 (dko_167 _) (by decide +kernel)
theorem d_Wa_find_312 : decode b_Wa_find 312 = .ok (.iconst 0, 1) := dk_0 a_Wa_find_312 (dko_3 _)
theorem d_Wa_find_313 : decode b_Wa_find 313 = .ok (.ireturn, 1) := dk_0 a_Wa_find_313 (dko_172 _)
set_option maxHeartbeats 4000000 in
set_option maxRecDepth 100000 in
theorem ok_Wa_find (pc : Nat) : OpS mt mi_Wa_find pc (cs_Wa_find pc) := (os_n (os_n (os_n (os_n (os_n (os_n (os_n (os_l (so_aload_n d_Wa_find_0 rfl)) (os_l (so_get (C := R_Wa) (T := F_Wa) (N := 18) (j := 0) in_Wa rfl (by decide) mw_217 d_Wa_find_1))) (os_n (os_l (so_get (C := R_St) (T := F_St) (N := 12) (j := 0) in_St rfl (by decide) mw_152 d_Wa_find_4)) (os_n (os_l (so_astore_n d_Wa_find_7 rfl (by decide))) (os_l (so_iconst d_Wa_find_8 (by decide)))))) (os_n (os_n (os_l (so_aload_n d_Wa_find_9 rfl)) (os_l (so_get (C := R_Pl) (T := F_Pl) (N := 12) (j := 1) in_Pl rfl (by decide) mw_95 d_Wa_find_10))) (os_n (os_l (so_imul d_Wa_find_13)) (os_n (os_l (so_istore d_Wa_find_14 (by decide))) (os_l (so_iconst d_Wa_find_16 (by decide))))))) (os_n (os_n (os_n (os_l (so_istore d_Wa_find_17 (by decide))) (os_l (so_iload d_Wa_find_19))) (os_n (os_l (so_iload d_Wa_find_21)) (os_n (os_l (so_icge d_Wa_find_23 (by decide))) (os_l (so_aload_n d_Wa_find_26 rfl))))) (os_n (os_n (os_l (so_get (C := R_Pl) (T := F_Pl) (N := 12) (j := 6) in_Pl rfl (by decide) mw_110 d_Wa_find_27)) (os_n (os_l (so_iload d_Wa_find_30)) (os_l (so_iconst d_Wa_find_32 (by decide))))) (os_n (os_l (so_ixor d_Wa_find_33)) (os_n (os_l (so_iaload d_Wa_find_34)) (os_l (so_iload_n d_Wa_find_35 rfl))))))) (os_n (os_n (os_n (os_n (os_l (so_icne d_Wa_find_36 (by decide))) (os_l (so_aload_n d_Wa_find_39 rfl))) (os_n (os_l (so_get (C := R_Wa) (T := F_Wa) (N := 18) (j := 11) in_Wa rfl (by decide) mw_229 d_Wa_find_40)) (os_n (os_l (so_iload d_Wa_find_43)) (os_l (so_iconst d_Wa_find_45 (by decide)))))) (os_n (os_n (os_l (so_ishr d_Wa_find_46)) (os_l (so_baload d_Wa_find_47))) (os_n (os_l (so_ifne d_Wa_find_48 (by decide))) (os_n (os_l (so_iconst d_Wa_find_51 (by decide))) (os_l (so_goto d_Wa_find_52 (by decide))))))) (os_n (os_n (os_n (os_l (so_iconst d_Wa_find_55 (by decide))) (os_l (so_istore d_Wa_find_56 (by decide)))) (os_n (os_l (so_aload_n d_Wa_find_58 rfl)) (os_n (os_l (so_get (C := R_Wa) (T := F_Wa) (N := 18) (j := 13) in_Wa rfl (by decide) mw_231 d_Wa_find_59)) (os_l (so_iload d_Wa_find_62))))) (os_n (os_n (os_l (so_iload d_Wa_find_64)) (os_n (os_l (so_ifeq d_Wa_find_66 (by decide))) (os_l (so_aload_n d_Wa_find_69 rfl)))) (os_n (os_l (so_get (C := R_Pl) (T := F_Pl) (N := 12) (j := 5) in_Pl rfl (by decide) mw_106 d_Wa_find_70)) (os_n (os_l (so_iload d_Wa_find_73)) (os_l (so_iconst d_Wa_find_75 (by decide))))))))) (os_n (os_n (os_n (os_n (os_n (os_l (so_ishr d_Wa_find_76)) (os_l (so_iaload d_Wa_find_77))) (os_n (os_l (so_bipush d_Wa_find_78 (by decide))) (os_n (os_l (so_imul d_Wa_find_80)) (os_l (so_iconst d_Wa_find_81 (by decide)))))) (os_n (os_n (os_l (so_iadd d_Wa_find_82)) (os_l (so_goto d_Wa_find_83 (by decide)))) (os_n (os_l (so_ldc mw_1229 d_Wa_find_86)) (os_n (os_l (so_iastore d_Wa_find_88)) (os_l (so_iinc d_Wa_find_89 (by decide) (by decide))))))) (os_n (os_n (os_n (os_l (so_goto d_Wa_find_92 (by decide))) (os_l (so_iconst d_Wa_find_95 (by decide)))) (os_n (os_l (so_istore d_Wa_find_96 (by decide))) (os_n (os_l (so_iconst d_Wa_find_98 (by decide))) (os_l (so_istore d_Wa_find_99 (by decide)))))) (os_n (os_n (os_l (so_iload d_Wa_find_101)) (os_n (os_l (so_ifeq d_Wa_find_103 (by decide))) (os_l (so_iload d_Wa_find_106)))) (os_n (os_l (so_iload d_Wa_find_108)) (os_n (os_l (so_icgt d_Wa_find_110 (by decide))) (os_l (so_iconst d_Wa_find_113 (by decide)))))))) (os_n (os_n (os_n (os_n (os_l (so_istore d_Wa_find_114 (by decide))) (os_l (so_iconst d_Wa_find_116 (by decide)))) (os_n (os_l (so_istore d_Wa_find_117 (by decide))) (os_n (os_l (so_iload d_Wa_find_119)) (os_l (so_iload d_Wa_find_121))))) (os_n (os_n (os_l (so_icge d_Wa_find_123 (by decide))) (os_n (os_l (so_aload_n d_Wa_find_126 rfl)) (os_l (so_get (C := R_Wa) (T := F_Wa) (N := 18) (j := 11) in_Wa rfl (by decide) mw_229 d_Wa_find_127)))) (os_n (os_l (so_iload d_Wa_find_130)) (os_n (os_l (so_iconst d_Wa_find_132 (by decide))) (os_l (so_ishr d_Wa_find_133)))))) (os_n (os_n (os_n (os_l (so_baload d_Wa_find_134)) (os_l (so_ifeq d_Wa_find_135 (by decide)))) (os_n (os_l (so_iconst d_Wa_find_138 (by decide))) (os_n (os_l (so_goto d_Wa_find_139 (by decide))) (os_l (so_aload_n d_Wa_find_142 rfl))))) (os_n (os_n (os_l (so_iload d_Wa_find_143)) (os_n (os_l (so_iconst d_Wa_find_145 (by decide))) (os_l (so_ixor d_Wa_find_146)))) (os_n (os_l (so_callV (iv := mi_Wa_onward) rfl rfl rfl mw_1230 mw_1232 sl_55 mw_7 mw_1233 ⟨by decide +kernel, by decide +kernel, by decide +kernel⟩ (by decide) d_Wa_find_147)) (os_n (os_l (so_istore d_Wa_find_150 (by decide))) (os_l (so_iload d_Wa_find_152))))))))) (os_n (os_n (os_n (os_n (os_n (os_n (os_l (so_ifge d_Wa_find_154 (by decide))) (os_l (so_ldc mw_1229 d_Wa_find_157))) (os_n (os_l (so_goto d_Wa_find_159 (by decide))) (os_n (os_l (so_aload_n d_Wa_find_162 rfl)) (os_l (so_get (C := R_Pl) (T := F_Pl) (N := 12) (j := 5) in_Pl rfl (by decide) mw_106 d_Wa_find_163))))) (os_n (os_n (os_l (so_iload d_Wa_find_166)) (os_l (so_iconst d_Wa_find_168 (by decide)))) (os_n (os_l (so_ishr d_Wa_find_169)) (os_n (os_l (so_iaload d_Wa_find_170)) (os_l (so_bipush d_Wa_find_171 (by decide))))))) (os_n (os_n (os_n (os_l (so_imul d_Wa_find_173)) (os_l (so_iconst d_Wa_find_174 (by decide)))) (os_n (os_l (so_iadd d_Wa_find_175)) (os_n (os_l (so_aload_n d_Wa_find_176 rfl)) (os_l (so_get (C := R_Wa) (T := F_Wa) (N := 18) (j := 13) in_Wa rfl (by decide) mw_231 d_Wa_find_177))))) (os_n (os_n (os_l (so_iload d_Wa_find_180)) (os_n (os_l (so_iaload d_Wa_find_182)) (os_l (so_iadd d_Wa_find_183)))) (os_n (os_l (so_istore d_Wa_find_184 (by decide))) (os_n (os_l (so_iload d_Wa_find_186)) (os_l (so_aload_n d_Wa_find_188 rfl))))))) (os_n (os_n (os_n (os_n (os_l (so_get (C := R_Wa) (T := F_Wa) (N := 18) (j := 13) in_Wa rfl (by decide) mw_231 d_Wa_find_189)) (os_l (so_iload d_Wa_find_192))) (os_n (os_l (so_iaload d_Wa_find_194)) (os_n (os_l (so_icge d_Wa_find_195 (by decide))) (os_l (so_aload_n d_Wa_find_198 rfl))))) (os_n (os_n (os_l (so_get (C := R_Wa) (T := F_Wa) (N := 18) (j := 13) in_Wa rfl (by decide) mw_231 d_Wa_find_199)) (os_l (so_iload d_Wa_find_202))) (os_n (os_l (so_iload d_Wa_find_204)) (os_n (os_l (so_iastore d_Wa_find_206)) (os_l (so_iconst d_Wa_find_207 (by decide))))))) (os_n (os_n (os_n (os_l (so_istore d_Wa_find_208 (by decide))) (os_l (so_iinc d_Wa_find_210 (by decide) (by decide)))) (os_n (os_l (so_goto d_Wa_find_213 (by decide))) (os_n (os_l (so_iinc d_Wa_find_216 (by decide) (by decide))) (os_l (so_goto d_Wa_find_219 (by decide)))))) (os_n (os_n (os_l (so_aload_n d_Wa_find_222 rfl)) (os_n (os_l (so_iload_n d_Wa_find_223 rfl)) (os_l (so_callV (iv := mi_Wa_cheapestEntry) rfl rfl rfl mw_1234 mw_1236 sl_56 mw_7 mw_1237 ⟨by decide +kernel, by decide +kernel, by decide +kernel⟩ (by decide) d_Wa_find_224)))) (os_n (os_l (so_istore d_Wa_find_227 (by decide))) (os_n (os_l (so_aload_n d_Wa_find_229 rfl)) (os_l (so_iconst d_Wa_find_230 (by decide))))))))) (os_n (os_n (os_n (os_n (os_n (os_l (so_putI (C := R_Wa) (T := F_Wa) (N := 18) (j := 15) in_Wa t_Wa_ok n_Wa rfl (by decide) mw_235 rfl (by decide +kernel) d_Wa_find_231)) (os_l (so_iload d_Wa_find_234))) (os_n (os_l (so_iflt d_Wa_find_236 (by decide))) (os_n (os_l (so_aload_n d_Wa_find_239 rfl)) (os_l (so_get (C := R_Wa) (T := F_Wa) (N := 18) (j := 15) in_Wa rfl (by decide) mw_235 d_Wa_find_240))))) (os_n (os_n (os_l (so_bipush d_Wa_find_243 (by decide))) (os_l (so_icge d_Wa_find_245 (by decide)))) (os_n (os_l (so_iload d_Wa_find_248)) (os_n (os_l (so_iconst d_Wa_find_250 (by decide))) (os_l (so_ixor d_Wa_find_251)))))) (os_n (os_n (os_n (os_l (so_istore d_Wa_find_252 (by decide))) (os_l (so_aload_n d_Wa_find_254 rfl))) (os_n (os_l (so_get (C := R_Wa) (T := F_Wa) (N := 18) (j := 14) in_Wa rfl (by decide) mw_232 d_Wa_find_255)) (os_n (os_l (so_aload_n d_Wa_find_258 rfl)) (os_l (so_get (C := R_Wa) (T := F_Wa) (N := 18) (j := 15) in_Wa rfl (by decide) mw_235 d_Wa_find_259))))) (os_n (os_n (os_l (so_iload d_Wa_find_262)) (os_n (os_l (so_iastore d_Wa_find_264)) (os_l (so_aload_n d_Wa_find_265 rfl)))) (os_n (os_l (so_dup d_Wa_find_266)) (os_n (os_l (so_get (C := R_Wa) (T := F_Wa) (N := 18) (j := 15) in_Wa rfl (by decide) mw_235 d_Wa_find_267)) (os_l (so_iconst d_Wa_find_270 (by decide)))))))) (os_n (os_n (os_n (os_n (os_l (so_iadd d_Wa_find_271)) (os_l (so_putI (C := R_Wa) (T := F_Wa) (N := 18) (j := 15) in_Wa t_Wa_ok n_Wa rfl (by decide) mw_235 rfl (by decide +kernel) d_Wa_find_272))) (os_n (os_l (so_aload_n d_Wa_find_275 rfl)) (os_n (os_l (so_get (C := R_Pl) (T := F_Pl) (N := 12) (j := 6) in_Pl rfl (by decide) mw_110 d_Wa_find_276)) (os_l (so_iload d_Wa_find_279))))) (os_n (os_n (os_l (so_iaload d_Wa_find_281)) (os_n (os_l (so_iload_n d_Wa_find_282 rfl)) (os_l (so_icne d_Wa_find_283 (by decide))))) (os_n (os_l (so_iconst d_Wa_find_286 (by decide))) (os_n (os_l (so_goto d_Wa_find_287 (by decide))) (os_l (so_aload_n d_Wa_find_290 rfl)))))) (os_n (os_n (os_n (os_l (so_iload d_Wa_find_291)) (os_l (so_callV (iv := mi_Wa_onward) rfl rfl rfl mw_1230 mw_1232 sl_55 mw_7 mw_1233 ⟨by decide +kernel, by decide +kernel, by decide +kernel⟩ (by decide) d_Wa_find_293))) (os_n (os_l (so_istore d_Wa_find_296 (by decide))) (os_n (os_l (so_goto d_Wa_find_298 (by decide))) (os_l (so_aload_n d_Wa_find_301 rfl))))) (os_n (os_n (os_l (so_get (C := R_Wa) (T := F_Wa) (N := 18) (j := 15) in_Wa rfl (by decide) mw_235 d_Wa_find_302)) (os_n (os_l (so_ifle d_Wa_find_305 (by decide))) (os_l (so_iconst d_Wa_find_308 (by decide))))) (os_n (os_l (so_goto d_Wa_find_309 (by decide))) (os_n (os_l (so_iconst d_Wa_find_312 (by decide))) (os_l (so_zreturn rfl d_Wa_find_313))))))))))
abbrev t_Wa_cheapestEntry_71 : List UInt8 := 172 :: []
abbrev t_Wa_cheapestEntry_70 : List UInt8 := 28 :: t_Wa_cheapestEntry_71
abbrev t_Wa_cheapestEntry_67 : List UInt8 := 167 :: 255 :: 197 :: t_Wa_cheapestEntry_70
abbrev t_Wa_cheapestEntry_64 : List UInt8 := 132 :: 4 :: 1 :: t_Wa_cheapestEntry_67
abbrev t_Wa_cheapestEntry_63 : List UInt8 := 62 :: t_Wa_cheapestEntry_64
abbrev t_Wa_cheapestEntry_62 : List UInt8 := 46 :: t_Wa_cheapestEntry_63
abbrev t_Wa_cheapestEntry_60 : List UInt8 := 21 :: 4 :: t_Wa_cheapestEntry_62
abbrev t_Wa_cheapestEntry_57 : List UInt8 := 180 :: 0 :: 46 :: t_Wa_cheapestEntry_60
abbrev t_Wa_cheapestEntry_56 : List UInt8 := 42 :: t_Wa_cheapestEntry_57
abbrev t_Wa_cheapestEntry_55 : List UInt8 := 61 :: t_Wa_cheapestEntry_56
abbrev t_Wa_cheapestEntry_53 : List UInt8 := 21 :: 4 :: t_Wa_cheapestEntry_55
abbrev t_Wa_cheapestEntry_50 : List UInt8 := 162 :: 0 :: 14 :: t_Wa_cheapestEntry_53
abbrev t_Wa_cheapestEntry_49 : List UInt8 := 29 :: t_Wa_cheapestEntry_50
abbrev t_Wa_cheapestEntry_48 : List UInt8 := 46 :: t_Wa_cheapestEntry_49
abbrev t_Wa_cheapestEntry_46 : List UInt8 := 21 :: 4 :: t_Wa_cheapestEntry_48
abbrev t_Wa_cheapestEntry_43 : List UInt8 := 180 :: 0 :: 46 :: t_Wa_cheapestEntry_46
abbrev t_Wa_cheapestEntry_42 : List UInt8 := 42 :: t_Wa_cheapestEntry_43
abbrev t_Wa_cheapestEntry_39 : List UInt8 := 160 :: 0 :: 25 :: t_Wa_cheapestEntry_42
abbrev t_Wa_cheapestEntry_38 : List UInt8 := 27 :: t_Wa_cheapestEntry_39
abbrev t_Wa_cheapestEntry_37 : List UInt8 := 46 :: t_Wa_cheapestEntry_38
abbrev t_Wa_cheapestEntry_35 : List UInt8 := 21 :: 4 :: t_Wa_cheapestEntry_37
abbrev t_Wa_cheapestEntry_32 : List UInt8 := 180 :: 0 :: 93 :: t_Wa_cheapestEntry_35
abbrev t_Wa_cheapestEntry_29 : List UInt8 := 180 :: 0 :: 81 :: t_Wa_cheapestEntry_32
abbrev t_Wa_cheapestEntry_26 : List UInt8 := 180 :: 0 :: 58 :: t_Wa_cheapestEntry_29
abbrev t_Wa_cheapestEntry_25 : List UInt8 := 42 :: t_Wa_cheapestEntry_26
abbrev t_Wa_cheapestEntry_22 : List UInt8 := 162 :: 0 :: 48 :: t_Wa_cheapestEntry_25
abbrev t_Wa_cheapestEntry_21 : List UInt8 := 104 :: t_Wa_cheapestEntry_22
abbrev t_Wa_cheapestEntry_18 : List UInt8 := 180 :: 0 :: 90 :: t_Wa_cheapestEntry_21
abbrev t_Wa_cheapestEntry_15 : List UInt8 := 180 :: 0 :: 81 :: t_Wa_cheapestEntry_18
abbrev t_Wa_cheapestEntry_12 : List UInt8 := 180 :: 0 :: 58 :: t_Wa_cheapestEntry_15
abbrev t_Wa_cheapestEntry_11 : List UInt8 := 42 :: t_Wa_cheapestEntry_12
abbrev t_Wa_cheapestEntry_10 : List UInt8 := 5 :: t_Wa_cheapestEntry_11
abbrev t_Wa_cheapestEntry_8 : List UInt8 := 21 :: 4 :: t_Wa_cheapestEntry_10
abbrev t_Wa_cheapestEntry_6 : List UInt8 := 54 :: 4 :: t_Wa_cheapestEntry_8
abbrev t_Wa_cheapestEntry_5 : List UInt8 := 3 :: t_Wa_cheapestEntry_6
abbrev t_Wa_cheapestEntry_4 : List UInt8 := 62 :: t_Wa_cheapestEntry_5
abbrev t_Wa_cheapestEntry_2 : List UInt8 := 18 :: 99 :: t_Wa_cheapestEntry_4
abbrev t_Wa_cheapestEntry_1 : List UInt8 := 61 :: t_Wa_cheapestEntry_2
abbrev t_Wa_cheapestEntry_0 : List UInt8 := 2 :: t_Wa_cheapestEntry_1
theorem a_Wa_cheapestEntry_0 : dk_at b_Wa_cheapestEntry 0 t_Wa_cheapestEntry_0 := dk_start (by decide +kernel)
theorem a_Wa_cheapestEntry_1 : dk_at b_Wa_cheapestEntry 1 t_Wa_cheapestEntry_1 := dk_go 1 a_Wa_cheapestEntry_0 rfl
theorem a_Wa_cheapestEntry_2 : dk_at b_Wa_cheapestEntry 2 t_Wa_cheapestEntry_2 := dk_go 1 a_Wa_cheapestEntry_1 rfl
theorem a_Wa_cheapestEntry_4 : dk_at b_Wa_cheapestEntry 4 t_Wa_cheapestEntry_4 := dk_go 2 a_Wa_cheapestEntry_2 rfl
theorem a_Wa_cheapestEntry_5 : dk_at b_Wa_cheapestEntry 5 t_Wa_cheapestEntry_5 := dk_go 1 a_Wa_cheapestEntry_4 rfl
theorem a_Wa_cheapestEntry_6 : dk_at b_Wa_cheapestEntry 6 t_Wa_cheapestEntry_6 := dk_go 1 a_Wa_cheapestEntry_5 rfl
theorem a_Wa_cheapestEntry_8 : dk_at b_Wa_cheapestEntry 8 t_Wa_cheapestEntry_8 := dk_go 2 a_Wa_cheapestEntry_6 rfl
theorem a_Wa_cheapestEntry_10 : dk_at b_Wa_cheapestEntry 10 t_Wa_cheapestEntry_10 := dk_go 2 a_Wa_cheapestEntry_8 rfl
theorem a_Wa_cheapestEntry_11 : dk_at b_Wa_cheapestEntry 11 t_Wa_cheapestEntry_11 := dk_go 1 a_Wa_cheapestEntry_10 rfl
theorem a_Wa_cheapestEntry_12 : dk_at b_Wa_cheapestEntry 12 t_Wa_cheapestEntry_12 := dk_go 1 a_Wa_cheapestEntry_11 rfl
theorem a_Wa_cheapestEntry_15 : dk_at b_Wa_cheapestEntry 15 t_Wa_cheapestEntry_15 := dk_go 3 a_Wa_cheapestEntry_12 rfl
theorem a_Wa_cheapestEntry_18 : dk_at b_Wa_cheapestEntry 18 t_Wa_cheapestEntry_18 := dk_go 3 a_Wa_cheapestEntry_15 rfl
theorem a_Wa_cheapestEntry_21 : dk_at b_Wa_cheapestEntry 21 t_Wa_cheapestEntry_21 := dk_go 3 a_Wa_cheapestEntry_18 rfl
theorem a_Wa_cheapestEntry_22 : dk_at b_Wa_cheapestEntry 22 t_Wa_cheapestEntry_22 := dk_go 1 a_Wa_cheapestEntry_21 rfl
theorem a_Wa_cheapestEntry_25 : dk_at b_Wa_cheapestEntry 25 t_Wa_cheapestEntry_25 := dk_go 3 a_Wa_cheapestEntry_22 rfl
theorem a_Wa_cheapestEntry_26 : dk_at b_Wa_cheapestEntry 26 t_Wa_cheapestEntry_26 := dk_go 1 a_Wa_cheapestEntry_25 rfl
theorem a_Wa_cheapestEntry_29 : dk_at b_Wa_cheapestEntry 29 t_Wa_cheapestEntry_29 := dk_go 3 a_Wa_cheapestEntry_26 rfl
theorem a_Wa_cheapestEntry_32 : dk_at b_Wa_cheapestEntry 32 t_Wa_cheapestEntry_32 := dk_go 3 a_Wa_cheapestEntry_29 rfl
theorem a_Wa_cheapestEntry_35 : dk_at b_Wa_cheapestEntry 35 t_Wa_cheapestEntry_35 := dk_go 3 a_Wa_cheapestEntry_32 rfl
theorem a_Wa_cheapestEntry_37 : dk_at b_Wa_cheapestEntry 37 t_Wa_cheapestEntry_37 := dk_go 2 a_Wa_cheapestEntry_35 rfl
theorem a_Wa_cheapestEntry_38 : dk_at b_Wa_cheapestEntry 38 t_Wa_cheapestEntry_38 := dk_go 1 a_Wa_cheapestEntry_37 rfl
theorem a_Wa_cheapestEntry_39 : dk_at b_Wa_cheapestEntry 39 t_Wa_cheapestEntry_39 := dk_go 1 a_Wa_cheapestEntry_38 rfl
theorem a_Wa_cheapestEntry_42 : dk_at b_Wa_cheapestEntry 42 t_Wa_cheapestEntry_42 := dk_go 3 a_Wa_cheapestEntry_39 rfl
theorem a_Wa_cheapestEntry_43 : dk_at b_Wa_cheapestEntry 43 t_Wa_cheapestEntry_43 := dk_go 1 a_Wa_cheapestEntry_42 rfl
theorem a_Wa_cheapestEntry_46 : dk_at b_Wa_cheapestEntry 46 t_Wa_cheapestEntry_46 := dk_go 3 a_Wa_cheapestEntry_43 rfl
theorem a_Wa_cheapestEntry_48 : dk_at b_Wa_cheapestEntry 48 t_Wa_cheapestEntry_48 := dk_go 2 a_Wa_cheapestEntry_46 rfl
theorem a_Wa_cheapestEntry_49 : dk_at b_Wa_cheapestEntry 49 t_Wa_cheapestEntry_49 := dk_go 1 a_Wa_cheapestEntry_48 rfl
theorem a_Wa_cheapestEntry_50 : dk_at b_Wa_cheapestEntry 50 t_Wa_cheapestEntry_50 := dk_go 1 a_Wa_cheapestEntry_49 rfl
theorem a_Wa_cheapestEntry_53 : dk_at b_Wa_cheapestEntry 53 t_Wa_cheapestEntry_53 := dk_go 3 a_Wa_cheapestEntry_50 rfl
theorem a_Wa_cheapestEntry_55 : dk_at b_Wa_cheapestEntry 55 t_Wa_cheapestEntry_55 := dk_go 2 a_Wa_cheapestEntry_53 rfl
theorem a_Wa_cheapestEntry_56 : dk_at b_Wa_cheapestEntry 56 t_Wa_cheapestEntry_56 := dk_go 1 a_Wa_cheapestEntry_55 rfl
theorem a_Wa_cheapestEntry_57 : dk_at b_Wa_cheapestEntry 57 t_Wa_cheapestEntry_57 := dk_go 1 a_Wa_cheapestEntry_56 rfl
theorem a_Wa_cheapestEntry_60 : dk_at b_Wa_cheapestEntry 60 t_Wa_cheapestEntry_60 := dk_go 3 a_Wa_cheapestEntry_57 rfl
theorem a_Wa_cheapestEntry_62 : dk_at b_Wa_cheapestEntry 62 t_Wa_cheapestEntry_62 := dk_go 2 a_Wa_cheapestEntry_60 rfl
theorem a_Wa_cheapestEntry_63 : dk_at b_Wa_cheapestEntry 63 t_Wa_cheapestEntry_63 := dk_go 1 a_Wa_cheapestEntry_62 rfl
theorem a_Wa_cheapestEntry_64 : dk_at b_Wa_cheapestEntry 64 t_Wa_cheapestEntry_64 := dk_go 1 a_Wa_cheapestEntry_63 rfl
theorem a_Wa_cheapestEntry_67 : dk_at b_Wa_cheapestEntry 67 t_Wa_cheapestEntry_67 := dk_go 3 a_Wa_cheapestEntry_64 rfl
theorem a_Wa_cheapestEntry_70 : dk_at b_Wa_cheapestEntry 70 t_Wa_cheapestEntry_70 := dk_go 3 a_Wa_cheapestEntry_67 rfl
theorem a_Wa_cheapestEntry_71 : dk_at b_Wa_cheapestEntry 71 t_Wa_cheapestEntry_71 := dk_go 1 a_Wa_cheapestEntry_70 rfl
theorem d_Wa_cheapestEntry_0 : decode b_Wa_cheapestEntry 0 = .ok (.iconst (-1), 1) := dk_0 a_Wa_cheapestEntry_0 (dko_2 _)
theorem d_Wa_cheapestEntry_1 : decode b_Wa_cheapestEntry 1 = .ok (.istore_n 2, 1) := dk_0 a_Wa_cheapestEntry_1 (dko_61 _)
theorem d_Wa_cheapestEntry_2 : decode b_Wa_cheapestEntry 2 = .ok (.ldc 99, 2) := dk_U1 a_Wa_cheapestEntry_2 (dko_18 _) rfl
theorem d_Wa_cheapestEntry_4 : decode b_Wa_cheapestEntry 4 = .ok (.istore_n 3, 1) := dk_0 a_Wa_cheapestEntry_4 (dko_62 _)
theorem d_Wa_cheapestEntry_5 : decode b_Wa_cheapestEntry 5 = .ok (.iconst 0, 1) := dk_0 a_Wa_cheapestEntry_5 (dko_3 _)
theorem d_Wa_cheapestEntry_6 : decode b_Wa_cheapestEntry 6 = .ok (.istore 4, 2) := dk_U1 a_Wa_cheapestEntry_6 (dko_54 _) rfl
theorem d_Wa_cheapestEntry_8 : decode b_Wa_cheapestEntry 8 = .ok (.iload 4, 2) := dk_U1 a_Wa_cheapestEntry_8 (dko_21 _) rfl
theorem d_Wa_cheapestEntry_10 : decode b_Wa_cheapestEntry 10 = .ok (.iconst 2, 1) := dk_0 a_Wa_cheapestEntry_10 (dko_5 _)
theorem d_Wa_cheapestEntry_11 : decode b_Wa_cheapestEntry 11 = .ok (.aload_n 0, 1) := dk_0 a_Wa_cheapestEntry_11 (dko_42 _)
theorem d_Wa_cheapestEntry_12 : decode b_Wa_cheapestEntry 12 = .ok (.getfield 58, 3) := dk_U2 a_Wa_cheapestEntry_12 (dko_180 _) rfl
theorem d_Wa_cheapestEntry_15 : decode b_Wa_cheapestEntry 15 = .ok (.getfield 81, 3) := dk_U2 a_Wa_cheapestEntry_15 (dko_180 _) rfl
theorem d_Wa_cheapestEntry_18 : decode b_Wa_cheapestEntry 18 = .ok (.getfield 90, 3) := dk_U2 a_Wa_cheapestEntry_18 (dko_180 _) rfl
theorem d_Wa_cheapestEntry_21 : decode b_Wa_cheapestEntry 21 = .ok (.imul, 1) := dk_0 a_Wa_cheapestEntry_21 (dko_104 _)
theorem d_Wa_cheapestEntry_22 : decode b_Wa_cheapestEntry 22 = .ok (.if_icmp .ge 48, 3) := dk_S2 a_Wa_cheapestEntry_22 (dko_162 _) (by decide +kernel)
theorem d_Wa_cheapestEntry_25 : decode b_Wa_cheapestEntry 25 = .ok (.aload_n 0, 1) := dk_0 a_Wa_cheapestEntry_25 (dko_42 _)
theorem d_Wa_cheapestEntry_26 : decode b_Wa_cheapestEntry 26 = .ok (.getfield 58, 3) := dk_U2 a_Wa_cheapestEntry_26 (dko_180 _) rfl
theorem d_Wa_cheapestEntry_29 : decode b_Wa_cheapestEntry 29 = .ok (.getfield 81, 3) := dk_U2 a_Wa_cheapestEntry_29 (dko_180 _) rfl
theorem d_Wa_cheapestEntry_32 : decode b_Wa_cheapestEntry 32 = .ok (.getfield 93, 3) := dk_U2 a_Wa_cheapestEntry_32 (dko_180 _) rfl
theorem d_Wa_cheapestEntry_35 : decode b_Wa_cheapestEntry 35 = .ok (.iload 4, 2) := dk_U1 a_Wa_cheapestEntry_35 (dko_21 _) rfl
theorem d_Wa_cheapestEntry_37 : decode b_Wa_cheapestEntry 37 = .ok (.iaload, 1) := dk_0 a_Wa_cheapestEntry_37 (dko_46 _)
theorem d_Wa_cheapestEntry_38 : decode b_Wa_cheapestEntry 38 = .ok (.iload_n 1, 1) := dk_0 a_Wa_cheapestEntry_38 (dko_27 _)
theorem d_Wa_cheapestEntry_39 : decode b_Wa_cheapestEntry 39 = .ok (.if_icmp .ne 25, 3) := dk_S2 a_Wa_cheapestEntry_39 (dko_160 _) (by decide +kernel)
theorem d_Wa_cheapestEntry_42 : decode b_Wa_cheapestEntry 42 = .ok (.aload_n 0, 1) := dk_0 a_Wa_cheapestEntry_42 (dko_42 _)
theorem d_Wa_cheapestEntry_43 : decode b_Wa_cheapestEntry 43 = .ok (.getfield 46, 3) := dk_U2 a_Wa_cheapestEntry_43 (dko_180 _) rfl
theorem d_Wa_cheapestEntry_46 : decode b_Wa_cheapestEntry 46 = .ok (.iload 4, 2) := dk_U1 a_Wa_cheapestEntry_46 (dko_21 _) rfl
theorem d_Wa_cheapestEntry_48 : decode b_Wa_cheapestEntry 48 = .ok (.iaload, 1) := dk_0 a_Wa_cheapestEntry_48 (dko_46 _)
theorem d_Wa_cheapestEntry_49 : decode b_Wa_cheapestEntry 49 = .ok (.iload_n 3, 1) := dk_0 a_Wa_cheapestEntry_49 (dko_29 _)
theorem d_Wa_cheapestEntry_50 : decode b_Wa_cheapestEntry 50 = .ok (.if_icmp .ge 14, 3) := dk_S2 a_Wa_cheapestEntry_50 (dko_162 _) (by decide +kernel)
theorem d_Wa_cheapestEntry_53 : decode b_Wa_cheapestEntry 53 = .ok (.iload 4, 2) := dk_U1 a_Wa_cheapestEntry_53 (dko_21 _) rfl
theorem d_Wa_cheapestEntry_55 : decode b_Wa_cheapestEntry 55 = .ok (.istore_n 2, 1) := dk_0 a_Wa_cheapestEntry_55 (dko_61 _)
theorem d_Wa_cheapestEntry_56 : decode b_Wa_cheapestEntry 56 = .ok (.aload_n 0, 1) := dk_0 a_Wa_cheapestEntry_56 (dko_42 _)
theorem d_Wa_cheapestEntry_57 : decode b_Wa_cheapestEntry 57 = .ok (.getfield 46, 3) := dk_U2 a_Wa_cheapestEntry_57 (dko_180 _) rfl
theorem d_Wa_cheapestEntry_60 : decode b_Wa_cheapestEntry 60 = .ok (.iload 4, 2) := dk_U1 a_Wa_cheapestEntry_60 (dko_21 _) rfl
theorem d_Wa_cheapestEntry_62 : decode b_Wa_cheapestEntry 62 = .ok (.iaload, 1) := dk_0 a_Wa_cheapestEntry_62 (dko_46 _)
theorem d_Wa_cheapestEntry_63 : decode b_Wa_cheapestEntry 63 = .ok (.istore_n 3, 1) := dk_0 a_Wa_cheapestEntry_63 (dko_62 _)
theorem d_Wa_cheapestEntry_64 : decode b_Wa_cheapestEntry 64 = .ok (.iinc 4 1, 3) := dk_US a_Wa_cheapestEntry_64 (dko_132 _) (by decide +kernel)
theorem d_Wa_cheapestEntry_67 : decode b_Wa_cheapestEntry 67 = .ok (.goto (-59), 3) := dk_S2 a_Wa_cheapestEntry_67 (dko_167 _) (by decide +kernel)
theorem d_Wa_cheapestEntry_70 : decode b_Wa_cheapestEntry 70 = .ok (.iload_n 2, 1) := dk_0 a_Wa_cheapestEntry_70 (dko_28 _)
theorem d_Wa_cheapestEntry_71 : decode b_Wa_cheapestEntry 71 = .ok (.ireturn, 1) := dk_0 a_Wa_cheapestEntry_71 (dko_172 _)
set_option maxHeartbeats 4000000 in
set_option maxRecDepth 100000 in
theorem ok_Wa_cheapestEntry (pc : Nat) : OpS mt mi_Wa_cheapestEntry pc (cs_Wa_cheapestEntry pc) := (os_n (os_n (os_n (os_n (os_n (os_l (so_iconst d_Wa_cheapestEntry_0 (by decide))) (os_l (so_istore_n d_Wa_cheapestEntry_1 rfl (by decide)))) (os_n (os_l (so_ldc mw_1229 d_Wa_cheapestEntry_2)) (os_l (so_istore_n d_Wa_cheapestEntry_4 rfl (by decide))))) (os_n (os_n (os_l (so_iconst d_Wa_cheapestEntry_5 (by decide))) (os_l (so_istore d_Wa_cheapestEntry_6 (by decide)))) (os_n (os_l (so_iload d_Wa_cheapestEntry_8)) (os_n (os_l (so_iconst d_Wa_cheapestEntry_10 (by decide))) (os_l (so_aload_n d_Wa_cheapestEntry_11 rfl)))))) (os_n (os_n (os_n (os_l (so_get (C := R_Wa) (T := F_Wa) (N := 18) (j := 0) in_Wa rfl (by decide) mw_217 d_Wa_cheapestEntry_12)) (os_l (so_get (C := R_St) (T := F_St) (N := 12) (j := 0) in_St rfl (by decide) mw_152 d_Wa_cheapestEntry_15))) (os_n (os_l (so_get (C := R_Pl) (T := F_Pl) (N := 12) (j := 1) in_Pl rfl (by decide) mw_95 d_Wa_cheapestEntry_18)) (os_n (os_l (so_imul d_Wa_cheapestEntry_21)) (os_l (so_icge d_Wa_cheapestEntry_22 (by decide)))))) (os_n (os_n (os_l (so_aload_n d_Wa_cheapestEntry_25 rfl)) (os_l (so_get (C := R_Wa) (T := F_Wa) (N := 18) (j := 0) in_Wa rfl (by decide) mw_217 d_Wa_cheapestEntry_26))) (os_n (os_l (so_get (C := R_St) (T := F_St) (N := 12) (j := 0) in_St rfl (by decide) mw_152 d_Wa_cheapestEntry_29)) (os_n (os_l (so_get (C := R_Pl) (T := F_Pl) (N := 12) (j := 6) in_Pl rfl (by decide) mw_110 d_Wa_cheapestEntry_32)) (os_l (so_iload d_Wa_cheapestEntry_35))))))) (os_n (os_n (os_n (os_n (os_l (so_iaload d_Wa_cheapestEntry_37)) (os_l (so_iload_n d_Wa_cheapestEntry_38 rfl))) (os_n (os_l (so_icne d_Wa_cheapestEntry_39 (by decide))) (os_n (os_l (so_aload_n d_Wa_cheapestEntry_42 rfl)) (os_l (so_get (C := R_Wa) (T := F_Wa) (N := 18) (j := 13) in_Wa rfl (by decide) mw_231 d_Wa_cheapestEntry_43))))) (os_n (os_n (os_l (so_iload d_Wa_cheapestEntry_46)) (os_l (so_iaload d_Wa_cheapestEntry_48))) (os_n (os_l (so_iload_n d_Wa_cheapestEntry_49 rfl)) (os_n (os_l (so_icge d_Wa_cheapestEntry_50 (by decide))) (os_l (so_iload d_Wa_cheapestEntry_53)))))) (os_n (os_n (os_n (os_l (so_istore_n d_Wa_cheapestEntry_55 rfl (by decide))) (os_l (so_aload_n d_Wa_cheapestEntry_56 rfl))) (os_n (os_l (so_get (C := R_Wa) (T := F_Wa) (N := 18) (j := 13) in_Wa rfl (by decide) mw_231 d_Wa_cheapestEntry_57)) (os_n (os_l (so_iload d_Wa_cheapestEntry_60)) (os_l (so_iaload d_Wa_cheapestEntry_62))))) (os_n (os_n (os_l (so_istore_n d_Wa_cheapestEntry_63 rfl (by decide))) (os_l (so_iinc d_Wa_cheapestEntry_64 (by decide) (by decide)))) (os_n (os_l (so_goto d_Wa_cheapestEntry_67 (by decide))) (os_n (os_l (so_iload_n d_Wa_cheapestEntry_70 rfl)) (os_l (so_ireturn rfl d_Wa_cheapestEntry_71))))))))
abbrev t_Wa_onward_165 : List UInt8 := 172 :: []
abbrev t_Wa_onward_163 : List UInt8 := 21 :: 4 :: t_Wa_onward_165
abbrev t_Wa_onward_160 : List UInt8 := 167 :: 255 :: 121 :: t_Wa_onward_163
abbrev t_Wa_onward_157 : List UInt8 := 132 :: 6 :: 1 :: t_Wa_onward_160
abbrev t_Wa_onward_155 : List UInt8 := 54 :: 5 :: t_Wa_onward_157
abbrev t_Wa_onward_154 : List UInt8 := 46 :: t_Wa_onward_155
abbrev t_Wa_onward_152 : List UInt8 := 21 :: 7 :: t_Wa_onward_154
abbrev t_Wa_onward_149 : List UInt8 := 180 :: 0 :: 46 :: t_Wa_onward_152
abbrev t_Wa_onward_148 : List UInt8 := 42 :: t_Wa_onward_149
abbrev t_Wa_onward_146 : List UInt8 := 54 :: 4 :: t_Wa_onward_148
abbrev t_Wa_onward_144 : List UInt8 := 21 :: 7 :: t_Wa_onward_146
abbrev t_Wa_onward_141 : List UInt8 := 153 :: 0 :: 16 :: t_Wa_onward_144
abbrev t_Wa_onward_139 : List UInt8 := 21 :: 9 :: t_Wa_onward_141
abbrev t_Wa_onward_136 : List UInt8 := 155 :: 0 :: 21 :: t_Wa_onward_139
abbrev t_Wa_onward_134 : List UInt8 := 21 :: 8 :: t_Wa_onward_136
abbrev t_Wa_onward_132 : List UInt8 := 54 :: 9 :: t_Wa_onward_134
abbrev t_Wa_onward_131 : List UInt8 := 3 :: t_Wa_onward_132
abbrev t_Wa_onward_128 : List UInt8 := 167 :: 0 :: 4 :: t_Wa_onward_131
abbrev t_Wa_onward_127 : List UInt8 := 4 :: t_Wa_onward_128
abbrev t_Wa_onward_124 : List UInt8 := 160 :: 0 :: 7 :: t_Wa_onward_127
abbrev t_Wa_onward_122 : List UInt8 := 21 :: 8 :: t_Wa_onward_124
abbrev t_Wa_onward_121 : List UInt8 := 46 :: t_Wa_onward_122
abbrev t_Wa_onward_120 : List UInt8 := 29 :: t_Wa_onward_121
abbrev t_Wa_onward_117 : List UInt8 := 180 :: 0 :: 119 :: t_Wa_onward_120
abbrev t_Wa_onward_114 : List UInt8 := 180 :: 0 :: 58 :: t_Wa_onward_117
abbrev t_Wa_onward_113 : List UInt8 := 42 :: t_Wa_onward_114
abbrev t_Wa_onward_110 : List UInt8 := 159 :: 0 :: 21 :: t_Wa_onward_113
abbrev t_Wa_onward_108 : List UInt8 := 16 :: 8 :: t_Wa_onward_110
abbrev t_Wa_onward_107 : List UInt8 := 46 :: t_Wa_onward_108
abbrev t_Wa_onward_106 : List UInt8 := 29 :: t_Wa_onward_107
abbrev t_Wa_onward_103 : List UInt8 := 180 :: 0 :: 113 :: t_Wa_onward_106
abbrev t_Wa_onward_102 : List UInt8 := 44 :: t_Wa_onward_103
abbrev t_Wa_onward_99 : List UInt8 := 153 :: 0 :: 28 :: t_Wa_onward_102
abbrev t_Wa_onward_98 : List UInt8 := 46 :: t_Wa_onward_99
abbrev t_Wa_onward_97 : List UInt8 := 29 :: t_Wa_onward_98
abbrev t_Wa_onward_94 : List UInt8 := 180 :: 0 :: 43 :: t_Wa_onward_97
abbrev t_Wa_onward_93 : List UInt8 := 42 :: t_Wa_onward_94
abbrev t_Wa_onward_91 : List UInt8 := 54 :: 8 :: t_Wa_onward_93
abbrev t_Wa_onward_90 : List UInt8 := 46 :: t_Wa_onward_91
abbrev t_Wa_onward_89 : List UInt8 := 96 :: t_Wa_onward_90
abbrev t_Wa_onward_87 : List UInt8 := 21 :: 6 :: t_Wa_onward_89
abbrev t_Wa_onward_86 : List UInt8 := 96 :: t_Wa_onward_87
abbrev t_Wa_onward_85 : List UInt8 := 104 :: t_Wa_onward_86
abbrev t_Wa_onward_84 : List UInt8 := 7 :: t_Wa_onward_85
abbrev t_Wa_onward_83 : List UInt8 := 46 :: t_Wa_onward_84
abbrev t_Wa_onward_82 : List UInt8 := 27 :: t_Wa_onward_83
abbrev t_Wa_onward_79 : List UInt8 := 180 :: 0 :: 116 :: t_Wa_onward_82
abbrev t_Wa_onward_78 : List UInt8 := 44 :: t_Wa_onward_79
abbrev t_Wa_onward_77 : List UInt8 := 104 :: t_Wa_onward_78
abbrev t_Wa_onward_75 : List UInt8 := 16 :: 16 :: t_Wa_onward_77
abbrev t_Wa_onward_74 : List UInt8 := 46 :: t_Wa_onward_75
abbrev t_Wa_onward_73 : List UInt8 := 29 :: t_Wa_onward_74
abbrev t_Wa_onward_70 : List UInt8 := 180 :: 0 :: 113 :: t_Wa_onward_73
abbrev t_Wa_onward_69 : List UInt8 := 44 :: t_Wa_onward_70
abbrev t_Wa_onward_66 : List UInt8 := 180 :: 0 :: 55 :: t_Wa_onward_69
abbrev t_Wa_onward_65 : List UInt8 := 42 :: t_Wa_onward_66
abbrev t_Wa_onward_62 : List UInt8 := 162 :: 0 :: 95 :: t_Wa_onward_65
abbrev t_Wa_onward_60 : List UInt8 := 21 :: 5 :: t_Wa_onward_62
abbrev t_Wa_onward_59 : List UInt8 := 46 :: t_Wa_onward_60
abbrev t_Wa_onward_57 : List UInt8 := 21 :: 7 :: t_Wa_onward_59
abbrev t_Wa_onward_54 : List UInt8 := 180 :: 0 :: 46 :: t_Wa_onward_57
abbrev t_Wa_onward_53 : List UInt8 := 42 :: t_Wa_onward_54
abbrev t_Wa_onward_50 : List UInt8 := 155 :: 0 :: 107 :: t_Wa_onward_53
abbrev t_Wa_onward_48 : List UInt8 := 21 :: 7 :: t_Wa_onward_50
abbrev t_Wa_onward_46 : List UInt8 := 54 :: 7 :: t_Wa_onward_48
abbrev t_Wa_onward_45 : List UInt8 := 46 :: t_Wa_onward_46
abbrev t_Wa_onward_44 : List UInt8 := 96 :: t_Wa_onward_45
abbrev t_Wa_onward_42 : List UInt8 := 21 :: 6 :: t_Wa_onward_44
abbrev t_Wa_onward_41 : List UInt8 := 104 :: t_Wa_onward_42
abbrev t_Wa_onward_40 : List UInt8 := 7 :: t_Wa_onward_41
abbrev t_Wa_onward_39 : List UInt8 := 29 :: t_Wa_onward_40
abbrev t_Wa_onward_36 : List UInt8 := 180 :: 0 :: 110 :: t_Wa_onward_39
abbrev t_Wa_onward_35 : List UInt8 := 44 :: t_Wa_onward_36
abbrev t_Wa_onward_32 : List UInt8 := 155 :: 0 :: 131 :: t_Wa_onward_35
abbrev t_Wa_onward_31 : List UInt8 := 29 :: t_Wa_onward_32
abbrev t_Wa_onward_28 : List UInt8 := 162 :: 0 :: 135 :: t_Wa_onward_31
abbrev t_Wa_onward_27 : List UInt8 := 7 :: t_Wa_onward_28
abbrev t_Wa_onward_25 : List UInt8 := 21 :: 6 :: t_Wa_onward_27
abbrev t_Wa_onward_23 : List UInt8 := 54 :: 6 :: t_Wa_onward_25
abbrev t_Wa_onward_22 : List UInt8 := 3 :: t_Wa_onward_23
abbrev t_Wa_onward_20 : List UInt8 := 54 :: 5 :: t_Wa_onward_22
abbrev t_Wa_onward_18 : List UInt8 := 18 :: 99 :: t_Wa_onward_20
abbrev t_Wa_onward_16 : List UInt8 := 54 :: 4 :: t_Wa_onward_18
abbrev t_Wa_onward_15 : List UInt8 := 2 :: t_Wa_onward_16
abbrev t_Wa_onward_14 : List UInt8 := 62 :: t_Wa_onward_15
abbrev t_Wa_onward_13 : List UInt8 := 46 :: t_Wa_onward_14
abbrev t_Wa_onward_12 : List UInt8 := 27 :: t_Wa_onward_13
abbrev t_Wa_onward_9 : List UInt8 := 180 :: 0 :: 93 :: t_Wa_onward_12
abbrev t_Wa_onward_8 : List UInt8 := 44 :: t_Wa_onward_9
abbrev t_Wa_onward_7 : List UInt8 := 77 :: t_Wa_onward_8
abbrev t_Wa_onward_4 : List UInt8 := 180 :: 0 :: 81 :: t_Wa_onward_7
abbrev t_Wa_onward_1 : List UInt8 := 180 :: 0 :: 58 :: t_Wa_onward_4
abbrev t_Wa_onward_0 : List UInt8 := 42 :: t_Wa_onward_1
theorem a_Wa_onward_0 : dk_at b_Wa_onward 0 t_Wa_onward_0 := dk_start (by decide +kernel)
theorem a_Wa_onward_1 : dk_at b_Wa_onward 1 t_Wa_onward_1 := dk_go 1 a_Wa_onward_0 rfl
theorem a_Wa_onward_4 : dk_at b_Wa_onward 4 t_Wa_onward_4 := dk_go 3 a_Wa_onward_1 rfl
theorem a_Wa_onward_7 : dk_at b_Wa_onward 7 t_Wa_onward_7 := dk_go 3 a_Wa_onward_4 rfl
theorem a_Wa_onward_8 : dk_at b_Wa_onward 8 t_Wa_onward_8 := dk_go 1 a_Wa_onward_7 rfl
theorem a_Wa_onward_9 : dk_at b_Wa_onward 9 t_Wa_onward_9 := dk_go 1 a_Wa_onward_8 rfl
theorem a_Wa_onward_12 : dk_at b_Wa_onward 12 t_Wa_onward_12 := dk_go 3 a_Wa_onward_9 rfl
theorem a_Wa_onward_13 : dk_at b_Wa_onward 13 t_Wa_onward_13 := dk_go 1 a_Wa_onward_12 rfl
theorem a_Wa_onward_14 : dk_at b_Wa_onward 14 t_Wa_onward_14 := dk_go 1 a_Wa_onward_13 rfl
theorem a_Wa_onward_15 : dk_at b_Wa_onward 15 t_Wa_onward_15 := dk_go 1 a_Wa_onward_14 rfl
theorem a_Wa_onward_16 : dk_at b_Wa_onward 16 t_Wa_onward_16 := dk_go 1 a_Wa_onward_15 rfl
theorem a_Wa_onward_18 : dk_at b_Wa_onward 18 t_Wa_onward_18 := dk_go 2 a_Wa_onward_16 rfl
theorem a_Wa_onward_20 : dk_at b_Wa_onward 20 t_Wa_onward_20 := dk_go 2 a_Wa_onward_18 rfl
theorem a_Wa_onward_22 : dk_at b_Wa_onward 22 t_Wa_onward_22 := dk_go 2 a_Wa_onward_20 rfl
theorem a_Wa_onward_23 : dk_at b_Wa_onward 23 t_Wa_onward_23 := dk_go 1 a_Wa_onward_22 rfl
theorem a_Wa_onward_25 : dk_at b_Wa_onward 25 t_Wa_onward_25 := dk_go 2 a_Wa_onward_23 rfl
theorem a_Wa_onward_27 : dk_at b_Wa_onward 27 t_Wa_onward_27 := dk_go 2 a_Wa_onward_25 rfl
theorem a_Wa_onward_28 : dk_at b_Wa_onward 28 t_Wa_onward_28 := dk_go 1 a_Wa_onward_27 rfl
theorem a_Wa_onward_31 : dk_at b_Wa_onward 31 t_Wa_onward_31 := dk_go 3 a_Wa_onward_28 rfl
theorem a_Wa_onward_32 : dk_at b_Wa_onward 32 t_Wa_onward_32 := dk_go 1 a_Wa_onward_31 rfl
theorem a_Wa_onward_35 : dk_at b_Wa_onward 35 t_Wa_onward_35 := dk_go 3 a_Wa_onward_32 rfl
theorem a_Wa_onward_36 : dk_at b_Wa_onward 36 t_Wa_onward_36 := dk_go 1 a_Wa_onward_35 rfl
theorem a_Wa_onward_39 : dk_at b_Wa_onward 39 t_Wa_onward_39 := dk_go 3 a_Wa_onward_36 rfl
theorem a_Wa_onward_40 : dk_at b_Wa_onward 40 t_Wa_onward_40 := dk_go 1 a_Wa_onward_39 rfl
theorem a_Wa_onward_41 : dk_at b_Wa_onward 41 t_Wa_onward_41 := dk_go 1 a_Wa_onward_40 rfl
theorem a_Wa_onward_42 : dk_at b_Wa_onward 42 t_Wa_onward_42 := dk_go 1 a_Wa_onward_41 rfl
theorem a_Wa_onward_44 : dk_at b_Wa_onward 44 t_Wa_onward_44 := dk_go 2 a_Wa_onward_42 rfl
theorem a_Wa_onward_45 : dk_at b_Wa_onward 45 t_Wa_onward_45 := dk_go 1 a_Wa_onward_44 rfl
theorem a_Wa_onward_46 : dk_at b_Wa_onward 46 t_Wa_onward_46 := dk_go 1 a_Wa_onward_45 rfl
theorem a_Wa_onward_48 : dk_at b_Wa_onward 48 t_Wa_onward_48 := dk_go 2 a_Wa_onward_46 rfl
theorem a_Wa_onward_50 : dk_at b_Wa_onward 50 t_Wa_onward_50 := dk_go 2 a_Wa_onward_48 rfl
theorem a_Wa_onward_53 : dk_at b_Wa_onward 53 t_Wa_onward_53 := dk_go 3 a_Wa_onward_50 rfl
theorem a_Wa_onward_54 : dk_at b_Wa_onward 54 t_Wa_onward_54 := dk_go 1 a_Wa_onward_53 rfl
theorem a_Wa_onward_57 : dk_at b_Wa_onward 57 t_Wa_onward_57 := dk_go 3 a_Wa_onward_54 rfl
theorem a_Wa_onward_59 : dk_at b_Wa_onward 59 t_Wa_onward_59 := dk_go 2 a_Wa_onward_57 rfl
theorem a_Wa_onward_60 : dk_at b_Wa_onward 60 t_Wa_onward_60 := dk_go 1 a_Wa_onward_59 rfl
theorem a_Wa_onward_62 : dk_at b_Wa_onward 62 t_Wa_onward_62 := dk_go 2 a_Wa_onward_60 rfl
theorem a_Wa_onward_65 : dk_at b_Wa_onward 65 t_Wa_onward_65 := dk_go 3 a_Wa_onward_62 rfl
theorem a_Wa_onward_66 : dk_at b_Wa_onward 66 t_Wa_onward_66 := dk_go 1 a_Wa_onward_65 rfl
theorem a_Wa_onward_69 : dk_at b_Wa_onward 69 t_Wa_onward_69 := dk_go 3 a_Wa_onward_66 rfl
theorem a_Wa_onward_70 : dk_at b_Wa_onward 70 t_Wa_onward_70 := dk_go 1 a_Wa_onward_69 rfl
theorem a_Wa_onward_73 : dk_at b_Wa_onward 73 t_Wa_onward_73 := dk_go 3 a_Wa_onward_70 rfl
theorem a_Wa_onward_74 : dk_at b_Wa_onward 74 t_Wa_onward_74 := dk_go 1 a_Wa_onward_73 rfl
theorem a_Wa_onward_75 : dk_at b_Wa_onward 75 t_Wa_onward_75 := dk_go 1 a_Wa_onward_74 rfl
theorem a_Wa_onward_77 : dk_at b_Wa_onward 77 t_Wa_onward_77 := dk_go 2 a_Wa_onward_75 rfl
theorem a_Wa_onward_78 : dk_at b_Wa_onward 78 t_Wa_onward_78 := dk_go 1 a_Wa_onward_77 rfl
theorem a_Wa_onward_79 : dk_at b_Wa_onward 79 t_Wa_onward_79 := dk_go 1 a_Wa_onward_78 rfl
theorem a_Wa_onward_82 : dk_at b_Wa_onward 82 t_Wa_onward_82 := dk_go 3 a_Wa_onward_79 rfl
theorem a_Wa_onward_83 : dk_at b_Wa_onward 83 t_Wa_onward_83 := dk_go 1 a_Wa_onward_82 rfl
theorem a_Wa_onward_84 : dk_at b_Wa_onward 84 t_Wa_onward_84 := dk_go 1 a_Wa_onward_83 rfl
theorem a_Wa_onward_85 : dk_at b_Wa_onward 85 t_Wa_onward_85 := dk_go 1 a_Wa_onward_84 rfl
theorem a_Wa_onward_86 : dk_at b_Wa_onward 86 t_Wa_onward_86 := dk_go 1 a_Wa_onward_85 rfl
theorem a_Wa_onward_87 : dk_at b_Wa_onward 87 t_Wa_onward_87 := dk_go 1 a_Wa_onward_86 rfl
theorem a_Wa_onward_89 : dk_at b_Wa_onward 89 t_Wa_onward_89 := dk_go 2 a_Wa_onward_87 rfl
theorem a_Wa_onward_90 : dk_at b_Wa_onward 90 t_Wa_onward_90 := dk_go 1 a_Wa_onward_89 rfl
theorem a_Wa_onward_91 : dk_at b_Wa_onward 91 t_Wa_onward_91 := dk_go 1 a_Wa_onward_90 rfl
theorem a_Wa_onward_93 : dk_at b_Wa_onward 93 t_Wa_onward_93 := dk_go 2 a_Wa_onward_91 rfl
theorem a_Wa_onward_94 : dk_at b_Wa_onward 94 t_Wa_onward_94 := dk_go 1 a_Wa_onward_93 rfl
theorem a_Wa_onward_97 : dk_at b_Wa_onward 97 t_Wa_onward_97 := dk_go 3 a_Wa_onward_94 rfl
theorem a_Wa_onward_98 : dk_at b_Wa_onward 98 t_Wa_onward_98 := dk_go 1 a_Wa_onward_97 rfl
theorem a_Wa_onward_99 : dk_at b_Wa_onward 99 t_Wa_onward_99 := dk_go 1 a_Wa_onward_98 rfl
theorem a_Wa_onward_102 : dk_at b_Wa_onward 102 t_Wa_onward_102 := dk_go 3 a_Wa_onward_99 rfl
theorem a_Wa_onward_103 : dk_at b_Wa_onward 103 t_Wa_onward_103 := dk_go 1 a_Wa_onward_102 rfl
theorem a_Wa_onward_106 : dk_at b_Wa_onward 106 t_Wa_onward_106 := dk_go 3 a_Wa_onward_103 rfl
theorem a_Wa_onward_107 : dk_at b_Wa_onward 107 t_Wa_onward_107 := dk_go 1 a_Wa_onward_106 rfl
theorem a_Wa_onward_108 : dk_at b_Wa_onward 108 t_Wa_onward_108 := dk_go 1 a_Wa_onward_107 rfl
theorem a_Wa_onward_110 : dk_at b_Wa_onward 110 t_Wa_onward_110 := dk_go 2 a_Wa_onward_108 rfl
theorem a_Wa_onward_113 : dk_at b_Wa_onward 113 t_Wa_onward_113 := dk_go 3 a_Wa_onward_110 rfl
theorem a_Wa_onward_114 : dk_at b_Wa_onward 114 t_Wa_onward_114 := dk_go 1 a_Wa_onward_113 rfl
theorem a_Wa_onward_117 : dk_at b_Wa_onward 117 t_Wa_onward_117 := dk_go 3 a_Wa_onward_114 rfl
theorem a_Wa_onward_120 : dk_at b_Wa_onward 120 t_Wa_onward_120 := dk_go 3 a_Wa_onward_117 rfl
theorem a_Wa_onward_121 : dk_at b_Wa_onward 121 t_Wa_onward_121 := dk_go 1 a_Wa_onward_120 rfl
theorem a_Wa_onward_122 : dk_at b_Wa_onward 122 t_Wa_onward_122 := dk_go 1 a_Wa_onward_121 rfl
theorem a_Wa_onward_124 : dk_at b_Wa_onward 124 t_Wa_onward_124 := dk_go 2 a_Wa_onward_122 rfl
theorem a_Wa_onward_127 : dk_at b_Wa_onward 127 t_Wa_onward_127 := dk_go 3 a_Wa_onward_124 rfl
theorem a_Wa_onward_128 : dk_at b_Wa_onward 128 t_Wa_onward_128 := dk_go 1 a_Wa_onward_127 rfl
theorem a_Wa_onward_131 : dk_at b_Wa_onward 131 t_Wa_onward_131 := dk_go 3 a_Wa_onward_128 rfl
theorem a_Wa_onward_132 : dk_at b_Wa_onward 132 t_Wa_onward_132 := dk_go 1 a_Wa_onward_131 rfl
theorem a_Wa_onward_134 : dk_at b_Wa_onward 134 t_Wa_onward_134 := dk_go 2 a_Wa_onward_132 rfl
theorem a_Wa_onward_136 : dk_at b_Wa_onward 136 t_Wa_onward_136 := dk_go 2 a_Wa_onward_134 rfl
theorem a_Wa_onward_139 : dk_at b_Wa_onward 139 t_Wa_onward_139 := dk_go 3 a_Wa_onward_136 rfl
theorem a_Wa_onward_141 : dk_at b_Wa_onward 141 t_Wa_onward_141 := dk_go 2 a_Wa_onward_139 rfl
theorem a_Wa_onward_144 : dk_at b_Wa_onward 144 t_Wa_onward_144 := dk_go 3 a_Wa_onward_141 rfl
theorem a_Wa_onward_146 : dk_at b_Wa_onward 146 t_Wa_onward_146 := dk_go 2 a_Wa_onward_144 rfl
theorem a_Wa_onward_148 : dk_at b_Wa_onward 148 t_Wa_onward_148 := dk_go 2 a_Wa_onward_146 rfl
theorem a_Wa_onward_149 : dk_at b_Wa_onward 149 t_Wa_onward_149 := dk_go 1 a_Wa_onward_148 rfl
theorem a_Wa_onward_152 : dk_at b_Wa_onward 152 t_Wa_onward_152 := dk_go 3 a_Wa_onward_149 rfl
theorem a_Wa_onward_154 : dk_at b_Wa_onward 154 t_Wa_onward_154 := dk_go 2 a_Wa_onward_152 rfl
theorem a_Wa_onward_155 : dk_at b_Wa_onward 155 t_Wa_onward_155 := dk_go 1 a_Wa_onward_154 rfl
theorem a_Wa_onward_157 : dk_at b_Wa_onward 157 t_Wa_onward_157 := dk_go 2 a_Wa_onward_155 rfl
theorem a_Wa_onward_160 : dk_at b_Wa_onward 160 t_Wa_onward_160 := dk_go 3 a_Wa_onward_157 rfl
theorem a_Wa_onward_163 : dk_at b_Wa_onward 163 t_Wa_onward_163 := dk_go 3 a_Wa_onward_160 rfl
theorem a_Wa_onward_165 : dk_at b_Wa_onward 165 t_Wa_onward_165 := dk_go 2 a_Wa_onward_163 rfl
theorem d_Wa_onward_0 : decode b_Wa_onward 0 = .ok (.aload_n 0, 1) := dk_0 a_Wa_onward_0 (dko_42 _)
theorem d_Wa_onward_1 : decode b_Wa_onward 1 = .ok (.getfield 58, 3) := dk_U2 a_Wa_onward_1 (dko_180 _) rfl
theorem d_Wa_onward_4 : decode b_Wa_onward 4 = .ok (.getfield 81, 3) := dk_U2 a_Wa_onward_4 (dko_180 _) rfl
theorem d_Wa_onward_7 : decode b_Wa_onward 7 = .ok (.astore_n 2, 1) := dk_0 a_Wa_onward_7 (dko_77 _)
theorem d_Wa_onward_8 : decode b_Wa_onward 8 = .ok (.aload_n 2, 1) := dk_0 a_Wa_onward_8 (dko_44 _)
theorem d_Wa_onward_9 : decode b_Wa_onward 9 = .ok (.getfield 93, 3) := dk_U2 a_Wa_onward_9 (dko_180 _) rfl
theorem d_Wa_onward_12 : decode b_Wa_onward 12 = .ok (.iload_n 1, 1) := dk_0 a_Wa_onward_12 (dko_27 _)
theorem d_Wa_onward_13 : decode b_Wa_onward 13 = .ok (.iaload, 1) := dk_0 a_Wa_onward_13 (dko_46 _)
theorem d_Wa_onward_14 : decode b_Wa_onward 14 = .ok (.istore_n 3, 1) := dk_0 a_Wa_onward_14 (dko_62 _)
theorem d_Wa_onward_15 : decode b_Wa_onward 15 = .ok (.iconst (-1), 1) := dk_0 a_Wa_onward_15 (dko_2 _)
theorem d_Wa_onward_16 : decode b_Wa_onward 16 = .ok (.istore 4, 2) := dk_U1 a_Wa_onward_16 (dko_54 _) rfl
theorem d_Wa_onward_18 : decode b_Wa_onward 18 = .ok (.ldc 99, 2) := dk_U1 a_Wa_onward_18 (dko_18 _) rfl
theorem d_Wa_onward_20 : decode b_Wa_onward 20 = .ok (.istore 5, 2) := dk_U1 a_Wa_onward_20 (dko_54 _) rfl
theorem d_Wa_onward_22 : decode b_Wa_onward 22 = .ok (.iconst 0, 1) := dk_0 a_Wa_onward_22 (dko_3 _)
theorem d_Wa_onward_23 : decode b_Wa_onward 23 = .ok (.istore 6, 2) := dk_U1 a_Wa_onward_23 (dko_54 _) rfl
theorem d_Wa_onward_25 : decode b_Wa_onward 25 = .ok (.iload 6, 2) := dk_U1 a_Wa_onward_25 (dko_21 _) rfl
theorem d_Wa_onward_27 : decode b_Wa_onward 27 = .ok (.iconst 4, 1) := dk_0 a_Wa_onward_27 (dko_7 _)
theorem d_Wa_onward_28 : decode b_Wa_onward 28 = .ok (.if_icmp .ge 135, 3) := dk_S2 a_Wa_onward_28 (dko_162 _) (by decide +kernel)
theorem d_Wa_onward_31 : decode b_Wa_onward 31 = .ok (.iload_n 3, 1) := dk_0 a_Wa_onward_31 (dko_29 _)
theorem d_Wa_onward_32 : decode b_Wa_onward 32 = .ok (.ifCond .lt 131, 3) := dk_S2 a_Wa_onward_32 (dko_155 _) (by decide +kernel)
theorem d_Wa_onward_35 : decode b_Wa_onward 35 = .ok (.aload_n 2, 1) := dk_0 a_Wa_onward_35 (dko_44 _)
theorem d_Wa_onward_36 : decode b_Wa_onward 36 = .ok (.getfield 110, 3) := dk_U2 a_Wa_onward_36 (dko_180 _) rfl
theorem d_Wa_onward_39 : decode b_Wa_onward 39 = .ok (.iload_n 3, 1) := dk_0 a_Wa_onward_39 (dko_29 _)
theorem d_Wa_onward_40 : decode b_Wa_onward 40 = .ok (.iconst 4, 1) := dk_0 a_Wa_onward_40 (dko_7 _)
theorem d_Wa_onward_41 : decode b_Wa_onward 41 = .ok (.imul, 1) := dk_0 a_Wa_onward_41 (dko_104 _)
theorem d_Wa_onward_42 : decode b_Wa_onward 42 = .ok (.iload 6, 2) := dk_U1 a_Wa_onward_42 (dko_21 _) rfl
theorem d_Wa_onward_44 : decode b_Wa_onward 44 = .ok (.iadd, 1) := dk_0 a_Wa_onward_44 (dko_96 _)
theorem d_Wa_onward_45 : decode b_Wa_onward 45 = .ok (.iaload, 1) := dk_0 a_Wa_onward_45 (dko_46 _)
theorem d_Wa_onward_46 : decode b_Wa_onward 46 = .ok (.istore 7, 2) := dk_U1 a_Wa_onward_46 (dko_54 _) rfl
theorem d_Wa_onward_48 : decode b_Wa_onward 48 = .ok (.iload 7, 2) := dk_U1 a_Wa_onward_48 (dko_21 _) rfl
theorem d_Wa_onward_50 : decode b_Wa_onward 50 = .ok (.ifCond .lt 107, 3) := dk_S2 a_Wa_onward_50 (dko_155 _) (by decide +kernel)
theorem d_Wa_onward_53 : decode b_Wa_onward 53 = .ok (.aload_n 0, 1) := dk_0 a_Wa_onward_53 (dko_42 _)
theorem d_Wa_onward_54 : decode b_Wa_onward 54 = .ok (.getfield 46, 3) := dk_U2 a_Wa_onward_54 (dko_180 _) rfl
theorem d_Wa_onward_57 : decode b_Wa_onward 57 = .ok (.iload 7, 2) := dk_U1 a_Wa_onward_57 (dko_21 _) rfl
theorem d_Wa_onward_59 : decode b_Wa_onward 59 = .ok (.iaload, 1) := dk_0 a_Wa_onward_59 (dko_46 _)
theorem d_Wa_onward_60 : decode b_Wa_onward 60 = .ok (.iload 5, 2) := dk_U1 a_Wa_onward_60 (dko_21 _) rfl
theorem d_Wa_onward_62 : decode b_Wa_onward 62 = .ok (.if_icmp .ge 95, 3) := dk_S2 a_Wa_onward_62 (dko_162 _) (by decide +kernel)
theorem d_Wa_onward_65 : decode b_Wa_onward 65 = .ok (.aload_n 0, 1) := dk_0 a_Wa_onward_65 (dko_42 _)
theorem d_Wa_onward_66 : decode b_Wa_onward 66 = .ok (.getfield 55, 3) := dk_U2 a_Wa_onward_66 (dko_180 _) rfl
theorem d_Wa_onward_69 : decode b_Wa_onward 69 = .ok (.aload_n 2, 1) := dk_0 a_Wa_onward_69 (dko_44 _)
theorem d_Wa_onward_70 : decode b_Wa_onward 70 = .ok (.getfield 113, 3) := dk_U2 a_Wa_onward_70 (dko_180 _) rfl
theorem d_Wa_onward_73 : decode b_Wa_onward 73 = .ok (.iload_n 3, 1) := dk_0 a_Wa_onward_73 (dko_29 _)
theorem d_Wa_onward_74 : decode b_Wa_onward 74 = .ok (.iaload, 1) := dk_0 a_Wa_onward_74 (dko_46 _)
theorem d_Wa_onward_75 : decode b_Wa_onward 75 = .ok (.bipush 16, 2) := dk_S1 a_Wa_onward_75 (dko_16 _) (by decide +kernel)
theorem d_Wa_onward_77 : decode b_Wa_onward 77 = .ok (.imul, 1) := dk_0 a_Wa_onward_77 (dko_104 _)
theorem d_Wa_onward_78 : decode b_Wa_onward 78 = .ok (.aload_n 2, 1) := dk_0 a_Wa_onward_78 (dko_44 _)
theorem d_Wa_onward_79 : decode b_Wa_onward 79 = .ok (.getfield 116, 3) := dk_U2 a_Wa_onward_79 (dko_180 _) rfl
theorem d_Wa_onward_82 : decode b_Wa_onward 82 = .ok (.iload_n 1, 1) := dk_0 a_Wa_onward_82 (dko_27 _)
theorem d_Wa_onward_83 : decode b_Wa_onward 83 = .ok (.iaload, 1) := dk_0 a_Wa_onward_83 (dko_46 _)
theorem d_Wa_onward_84 : decode b_Wa_onward 84 = .ok (.iconst 4, 1) := dk_0 a_Wa_onward_84 (dko_7 _)
theorem d_Wa_onward_85 : decode b_Wa_onward 85 = .ok (.imul, 1) := dk_0 a_Wa_onward_85 (dko_104 _)
theorem d_Wa_onward_86 : decode b_Wa_onward 86 = .ok (.iadd, 1) := dk_0 a_Wa_onward_86 (dko_96 _)
theorem d_Wa_onward_87 : decode b_Wa_onward 87 = .ok (.iload 6, 2) := dk_U1 a_Wa_onward_87 (dko_21 _) rfl
theorem d_Wa_onward_89 : decode b_Wa_onward 89 = .ok (.iadd, 1) := dk_0 a_Wa_onward_89 (dko_96 _)
theorem d_Wa_onward_90 : decode b_Wa_onward 90 = .ok (.iaload, 1) := dk_0 a_Wa_onward_90 (dko_46 _)
theorem d_Wa_onward_91 : decode b_Wa_onward 91 = .ok (.istore 8, 2) := dk_U1 a_Wa_onward_91 (dko_54 _) rfl
theorem d_Wa_onward_93 : decode b_Wa_onward 93 = .ok (.aload_n 0, 1) := dk_0 a_Wa_onward_93 (dko_42 _)
theorem d_Wa_onward_94 : decode b_Wa_onward 94 = .ok (.getfield 43, 3) := dk_U2 a_Wa_onward_94 (dko_180 _) rfl
theorem d_Wa_onward_97 : decode b_Wa_onward 97 = .ok (.iload_n 3, 1) := dk_0 a_Wa_onward_97 (dko_29 _)
theorem d_Wa_onward_98 : decode b_Wa_onward 98 = .ok (.iaload, 1) := dk_0 a_Wa_onward_98 (dko_46 _)
theorem d_Wa_onward_99 : decode b_Wa_onward 99 = .ok (.ifCond .eq 28, 3) := dk_S2 a_Wa_onward_99 (dko_153 _) (by decide +kernel)
theorem d_Wa_onward_102 : decode b_Wa_onward 102 = .ok (.aload_n 2, 1) := dk_0 a_Wa_onward_102 (dko_44 _)
theorem d_Wa_onward_103 : decode b_Wa_onward 103 = .ok (.getfield 113, 3) := dk_U2 a_Wa_onward_103 (dko_180 _) rfl
theorem d_Wa_onward_106 : decode b_Wa_onward 106 = .ok (.iload_n 3, 1) := dk_0 a_Wa_onward_106 (dko_29 _)
theorem d_Wa_onward_107 : decode b_Wa_onward 107 = .ok (.iaload, 1) := dk_0 a_Wa_onward_107 (dko_46 _)
theorem d_Wa_onward_108 : decode b_Wa_onward 108 = .ok (.bipush 8, 2) := dk_S1 a_Wa_onward_108 (dko_16 _) (by decide +kernel)
theorem d_Wa_onward_110 : decode b_Wa_onward 110 = .ok (.if_icmp .eq 21, 3) := dk_S2 a_Wa_onward_110 (dko_159 _) (by decide +kernel)
theorem d_Wa_onward_113 : decode b_Wa_onward 113 = .ok (.aload_n 0, 1) := dk_0 a_Wa_onward_113 (dko_42 _)
theorem d_Wa_onward_114 : decode b_Wa_onward 114 = .ok (.getfield 58, 3) := dk_U2 a_Wa_onward_114 (dko_180 _) rfl
theorem d_Wa_onward_117 : decode b_Wa_onward 117 = .ok (.getfield 119, 3) := dk_U2 a_Wa_onward_117 (dko_180 _) rfl
theorem d_Wa_onward_120 : decode b_Wa_onward 120 = .ok (.iload_n 3, 1) := dk_0 a_Wa_onward_120 (dko_29 _)
theorem d_Wa_onward_121 : decode b_Wa_onward 121 = .ok (.iaload, 1) := dk_0 a_Wa_onward_121 (dko_46 _)
theorem d_Wa_onward_122 : decode b_Wa_onward 122 = .ok (.iload 8, 2) := dk_U1 a_Wa_onward_122 (dko_21 _) rfl
theorem d_Wa_onward_124 : decode b_Wa_onward 124 = .ok (.if_icmp .ne 7, 3) := dk_S2 a_Wa_onward_124 (dko_160 _) (by decide +kernel)
theorem d_Wa_onward_127 : decode b_Wa_onward 127 = .ok (.iconst 1, 1) := dk_0 a_Wa_onward_127 (dko_4 _)
theorem d_Wa_onward_128 : decode b_Wa_onward 128 = .ok (.goto 4, 3) := dk_S2 a_Wa_onward_128 (dko_167 _) (by decide +kernel)
theorem d_Wa_onward_131 : decode b_Wa_onward 131 = .ok (.iconst 0, 1) := dk_0 a_Wa_onward_131 (dko_3 _)
theorem d_Wa_onward_132 : decode b_Wa_onward 132 = .ok (.istore 9, 2) := dk_U1 a_Wa_onward_132 (dko_54 _) rfl
theorem d_Wa_onward_134 : decode b_Wa_onward 134 = .ok (.iload 8, 2) := dk_U1 a_Wa_onward_134 (dko_21 _) rfl
theorem d_Wa_onward_136 : decode b_Wa_onward 136 = .ok (.ifCond .lt 21, 3) := dk_S2 a_Wa_onward_136 (dko_155 _) (by decide +kernel)
theorem d_Wa_onward_139 : decode b_Wa_onward 139 = .ok (.iload 9, 2) := dk_U1 a_Wa_onward_139 (dko_21 _) rfl
theorem d_Wa_onward_141 : decode b_Wa_onward 141 = .ok (.ifCond .eq 16, 3) := dk_S2 a_Wa_onward_141 (dko_153 _) (by decide +kernel)
theorem d_Wa_onward_144 : decode b_Wa_onward 144 = .ok (.iload 7, 2) := dk_U1 a_Wa_onward_144 (dko_21 _) rfl
theorem d_Wa_onward_146 : decode b_Wa_onward 146 = .ok (.istore 4, 2) := dk_U1 a_Wa_onward_146 (dko_54 _) rfl
theorem d_Wa_onward_148 : decode b_Wa_onward 148 = .ok (.aload_n 0, 1) := dk_0 a_Wa_onward_148 (dko_42 _)
theorem d_Wa_onward_149 : decode b_Wa_onward 149 = .ok (.getfield 46, 3) := dk_U2 a_Wa_onward_149 (dko_180 _) rfl
theorem d_Wa_onward_152 : decode b_Wa_onward 152 = .ok (.iload 7, 2) := dk_U1 a_Wa_onward_152 (dko_21 _) rfl
theorem d_Wa_onward_154 : decode b_Wa_onward 154 = .ok (.iaload, 1) := dk_0 a_Wa_onward_154 (dko_46 _)
theorem d_Wa_onward_155 : decode b_Wa_onward 155 = .ok (.istore 5, 2) := dk_U1 a_Wa_onward_155 (dko_54 _) rfl
theorem d_Wa_onward_157 : decode b_Wa_onward 157 = .ok (.iinc 6 1, 3) := dk_US a_Wa_onward_157 (dko_132 _) (by decide +kernel)
theorem d_Wa_onward_160 : decode b_Wa_onward 160 = .ok (.goto (-135), 3) := dk_S2 a_Wa_onward_160 (dko_167 _) (by decide +kernel)
theorem d_Wa_onward_163 : decode b_Wa_onward 163 = .ok (.iload 4, 2) := dk_U1 a_Wa_onward_163 (dko_21 _) rfl
theorem d_Wa_onward_165 : decode b_Wa_onward 165 = .ok (.ireturn, 1) := dk_0 a_Wa_onward_165 (dko_172 _)
set_option maxHeartbeats 4000000 in
set_option maxRecDepth 100000 in
theorem ok_Wa_onward (pc : Nat) : OpS mt mi_Wa_onward pc (cs_Wa_onward pc) := (os_n (os_n (os_n (os_n (os_n (os_n (os_l (so_aload_n d_Wa_onward_0 rfl)) (os_l (so_get (C := R_Wa) (T := F_Wa) (N := 18) (j := 0) in_Wa rfl (by decide) mw_217 d_Wa_onward_1))) (os_n (os_l (so_get (C := R_St) (T := F_St) (N := 12) (j := 0) in_St rfl (by decide) mw_152 d_Wa_onward_4)) (os_n (os_l (so_astore_n d_Wa_onward_7 rfl (by decide))) (os_l (so_aload_n d_Wa_onward_8 rfl))))) (os_n (os_n (os_l (so_get (C := R_Pl) (T := F_Pl) (N := 12) (j := 6) in_Pl rfl (by decide) mw_110 d_Wa_onward_9)) (os_n (os_l (so_iload_n d_Wa_onward_12 rfl)) (os_l (so_iaload d_Wa_onward_13)))) (os_n (os_l (so_istore_n d_Wa_onward_14 rfl (by decide))) (os_n (os_l (so_iconst d_Wa_onward_15 (by decide))) (os_l (so_istore d_Wa_onward_16 (by decide))))))) (os_n (os_n (os_n (os_l (so_ldc mw_1229 d_Wa_onward_18)) (os_n (os_l (so_istore d_Wa_onward_20 (by decide))) (os_l (so_iconst d_Wa_onward_22 (by decide))))) (os_n (os_l (so_istore d_Wa_onward_23 (by decide))) (os_n (os_l (so_iload d_Wa_onward_25)) (os_l (so_iconst d_Wa_onward_27 (by decide)))))) (os_n (os_n (os_l (so_icge d_Wa_onward_28 (by decide))) (os_n (os_l (so_iload_n d_Wa_onward_31 rfl)) (os_l (so_iflt d_Wa_onward_32 (by decide))))) (os_n (os_l (so_aload_n d_Wa_onward_35 rfl)) (os_n (os_l (so_get (C := R_Pl) (T := F_Pl) (N := 12) (j := 8) in_Pl rfl (by decide) mw_116 d_Wa_onward_36)) (os_l (so_iload_n d_Wa_onward_39 rfl))))))) (os_n (os_n (os_n (os_n (os_l (so_iconst d_Wa_onward_40 (by decide))) (os_l (so_imul d_Wa_onward_41))) (os_n (os_l (so_iload d_Wa_onward_42)) (os_n (os_l (so_iadd d_Wa_onward_44)) (os_l (so_iaload d_Wa_onward_45))))) (os_n (os_n (os_l (so_istore d_Wa_onward_46 (by decide))) (os_n (os_l (so_iload d_Wa_onward_48)) (os_l (so_iflt d_Wa_onward_50 (by decide))))) (os_n (os_l (so_aload_n d_Wa_onward_53 rfl)) (os_n (os_l (so_get (C := R_Wa) (T := F_Wa) (N := 18) (j := 13) in_Wa rfl (by decide) mw_231 d_Wa_onward_54)) (os_l (so_iload d_Wa_onward_57)))))) (os_n (os_n (os_n (os_l (so_iaload d_Wa_onward_59)) (os_n (os_l (so_iload d_Wa_onward_60)) (os_l (so_icge d_Wa_onward_62 (by decide))))) (os_n (os_l (so_aload_n d_Wa_onward_65 rfl)) (os_n (os_l (so_get (C := R_Wa) (T := F_Wa) (N := 18) (j := 17) in_Wa rfl (by decide) mw_237 d_Wa_onward_66)) (os_l (so_aload_n d_Wa_onward_69 rfl))))) (os_n (os_n (os_l (so_get (C := R_Pl) (T := F_Pl) (N := 12) (j := 2) in_Pl rfl (by decide) mw_99 d_Wa_onward_70)) (os_n (os_l (so_iload_n d_Wa_onward_73 rfl)) (os_l (so_iaload d_Wa_onward_74)))) (os_n (os_l (so_bipush d_Wa_onward_75 (by decide))) (os_n (os_l (so_imul d_Wa_onward_77)) (os_l (so_aload_n d_Wa_onward_78 rfl)))))))) (os_n (os_n (os_n (os_n (os_n (os_l (so_get (C := R_Pl) (T := F_Pl) (N := 12) (j := 7) in_Pl rfl (by decide) mw_113 d_Wa_onward_79)) (os_l (so_iload_n d_Wa_onward_82 rfl))) (os_n (os_l (so_iaload d_Wa_onward_83)) (os_n (os_l (so_iconst d_Wa_onward_84 (by decide))) (os_l (so_imul d_Wa_onward_85))))) (os_n (os_n (os_l (so_iadd d_Wa_onward_86)) (os_n (os_l (so_iload d_Wa_onward_87)) (os_l (so_iadd d_Wa_onward_89)))) (os_n (os_l (so_iaload d_Wa_onward_90)) (os_n (os_l (so_istore d_Wa_onward_91 (by decide))) (os_l (so_aload_n d_Wa_onward_93 rfl)))))) (os_n (os_n (os_n (os_l (so_get (C := R_Wa) (T := F_Wa) (N := 18) (j := 12) in_Wa rfl (by decide) mw_230 d_Wa_onward_94)) (os_n (os_l (so_iload_n d_Wa_onward_97 rfl)) (os_l (so_iaload d_Wa_onward_98)))) (os_n (os_l (so_ifeq d_Wa_onward_99 (by decide))) (os_n (os_l (so_aload_n d_Wa_onward_102 rfl)) (os_l (so_get (C := R_Pl) (T := F_Pl) (N := 12) (j := 2) in_Pl rfl (by decide) mw_99 d_Wa_onward_103))))) (os_n (os_n (os_l (so_iload_n d_Wa_onward_106 rfl)) (os_n (os_l (so_iaload d_Wa_onward_107)) (os_l (so_bipush d_Wa_onward_108 (by decide))))) (os_n (os_l (so_iceq d_Wa_onward_110 (by decide))) (os_n (os_l (so_aload_n d_Wa_onward_113 rfl)) (os_l (so_get (C := R_Wa) (T := F_Wa) (N := 18) (j := 0) in_Wa rfl (by decide) mw_217 d_Wa_onward_114))))))) (os_n (os_n (os_n (os_n (os_l (so_get (C := R_St) (T := F_St) (N := 12) (j := 2) in_St rfl (by decide) mw_160 d_Wa_onward_117)) (os_n (os_l (so_iload_n d_Wa_onward_120 rfl)) (os_l (so_iaload d_Wa_onward_121)))) (os_n (os_l (so_iload d_Wa_onward_122)) (os_n (os_l (so_icne d_Wa_onward_124 (by decide))) (os_l (so_iconst d_Wa_onward_127 (by decide)))))) (os_n (os_n (os_l (so_goto d_Wa_onward_128 (by decide))) (os_n (os_l (so_iconst d_Wa_onward_131 (by decide))) (os_l (so_istore d_Wa_onward_132 (by decide))))) (os_n (os_l (so_iload d_Wa_onward_134)) (os_n (os_l (so_iflt d_Wa_onward_136 (by decide))) (os_l (so_iload d_Wa_onward_139)))))) (os_n (os_n (os_n (os_l (so_ifeq d_Wa_onward_141 (by decide))) (os_n (os_l (so_iload d_Wa_onward_144)) (os_l (so_istore d_Wa_onward_146 (by decide))))) (os_n (os_l (so_aload_n d_Wa_onward_148 rfl)) (os_n (os_l (so_get (C := R_Wa) (T := F_Wa) (N := 18) (j := 13) in_Wa rfl (by decide) mw_231 d_Wa_onward_149)) (os_l (so_iload d_Wa_onward_152))))) (os_n (os_n (os_l (so_iaload d_Wa_onward_154)) (os_n (os_l (so_istore d_Wa_onward_155 (by decide))) (os_l (so_iinc d_Wa_onward_157 (by decide) (by decide))))) (os_n (os_l (so_goto d_Wa_onward_160 (by decide))) (os_n (os_l (so_iload d_Wa_onward_163)) (os_l (so_ireturn rfl d_Wa_onward_165)))))))))
abbrev t_Wa_openFound_334 : List UInt8 := 177 :: []
abbrev t_Wa_openFound_331 : List UInt8 := 181 :: 0 :: 65 :: t_Wa_openFound_334
abbrev t_Wa_openFound_330 : List UInt8 := 96 :: t_Wa_openFound_331
abbrev t_Wa_openFound_329 : List UInt8 := 4 :: t_Wa_openFound_330
abbrev t_Wa_openFound_326 : List UInt8 := 180 :: 0 :: 65 :: t_Wa_openFound_329
abbrev t_Wa_openFound_325 : List UInt8 := 89 :: t_Wa_openFound_326
abbrev t_Wa_openFound_324 : List UInt8 := 42 :: t_Wa_openFound_325
abbrev t_Wa_openFound_323 : List UInt8 := 79 :: t_Wa_openFound_324
abbrev t_Wa_openFound_322 : List UInt8 := 122 :: t_Wa_openFound_323
abbrev t_Wa_openFound_321 : List UInt8 := 4 :: t_Wa_openFound_322
abbrev t_Wa_openFound_320 : List UInt8 := 46 :: t_Wa_openFound_321
abbrev t_Wa_openFound_319 : List UInt8 := 100 :: t_Wa_openFound_320
abbrev t_Wa_openFound_318 : List UInt8 := 4 :: t_Wa_openFound_319
abbrev t_Wa_openFound_315 : List UInt8 := 180 :: 0 :: 107 :: t_Wa_openFound_318
abbrev t_Wa_openFound_314 : List UInt8 := 42 :: t_Wa_openFound_315
abbrev t_Wa_openFound_311 : List UInt8 := 180 :: 0 :: 49 :: t_Wa_openFound_314
abbrev t_Wa_openFound_310 : List UInt8 := 42 :: t_Wa_openFound_311
abbrev t_Wa_openFound_307 : List UInt8 := 180 :: 0 :: 65 :: t_Wa_openFound_310
abbrev t_Wa_openFound_306 : List UInt8 := 42 :: t_Wa_openFound_307
abbrev t_Wa_openFound_303 : List UInt8 := 180 :: 0 :: 30 :: t_Wa_openFound_306
abbrev t_Wa_openFound_302 : List UInt8 := 42 :: t_Wa_openFound_303
abbrev t_Wa_openFound_301 : List UInt8 := 79 :: t_Wa_openFound_302
abbrev t_Wa_openFound_300 : List UInt8 := 122 :: t_Wa_openFound_301
abbrev t_Wa_openFound_299 : List UInt8 := 4 :: t_Wa_openFound_300
abbrev t_Wa_openFound_298 : List UInt8 := 46 :: t_Wa_openFound_299
abbrev t_Wa_openFound_297 : List UInt8 := 3 :: t_Wa_openFound_298
abbrev t_Wa_openFound_294 : List UInt8 := 180 :: 0 :: 49 :: t_Wa_openFound_297
abbrev t_Wa_openFound_293 : List UInt8 := 42 :: t_Wa_openFound_294
abbrev t_Wa_openFound_290 : List UInt8 := 180 :: 0 :: 65 :: t_Wa_openFound_293
abbrev t_Wa_openFound_289 : List UInt8 := 42 :: t_Wa_openFound_290
abbrev t_Wa_openFound_286 : List UInt8 := 180 :: 0 :: 27 :: t_Wa_openFound_289
abbrev t_Wa_openFound_285 : List UInt8 := 42 :: t_Wa_openFound_286
abbrev t_Wa_openFound_284 : List UInt8 := 79 :: t_Wa_openFound_285
abbrev t_Wa_openFound_281 : List UInt8 := 180 :: 0 :: 107 :: t_Wa_openFound_284
abbrev t_Wa_openFound_280 : List UInt8 := 42 :: t_Wa_openFound_281
abbrev t_Wa_openFound_277 : List UInt8 := 180 :: 0 :: 65 :: t_Wa_openFound_280
abbrev t_Wa_openFound_276 : List UInt8 := 42 :: t_Wa_openFound_277
abbrev t_Wa_openFound_273 : List UInt8 := 180 :: 0 :: 24 :: t_Wa_openFound_276
abbrev t_Wa_openFound_272 : List UInt8 := 42 :: t_Wa_openFound_273
abbrev t_Wa_openFound_271 : List UInt8 := 79 :: t_Wa_openFound_272
abbrev t_Wa_openFound_270 : List UInt8 := 46 :: t_Wa_openFound_271
abbrev t_Wa_openFound_269 : List UInt8 := 27 :: t_Wa_openFound_270
abbrev t_Wa_openFound_266 : List UInt8 := 180 :: 0 :: 122 :: t_Wa_openFound_269
abbrev t_Wa_openFound_263 : List UInt8 := 180 :: 0 :: 58 :: t_Wa_openFound_266
abbrev t_Wa_openFound_262 : List UInt8 := 42 :: t_Wa_openFound_263
abbrev t_Wa_openFound_259 : List UInt8 := 180 :: 0 :: 65 :: t_Wa_openFound_262
abbrev t_Wa_openFound_258 : List UInt8 := 42 :: t_Wa_openFound_259
abbrev t_Wa_openFound_255 : List UInt8 := 180 :: 0 :: 21 :: t_Wa_openFound_258
abbrev t_Wa_openFound_254 : List UInt8 := 42 :: t_Wa_openFound_255
abbrev t_Wa_openFound_253 : List UInt8 := 79 :: t_Wa_openFound_254
abbrev t_Wa_openFound_252 : List UInt8 := 29 :: t_Wa_openFound_253
abbrev t_Wa_openFound_249 : List UInt8 := 180 :: 0 :: 65 :: t_Wa_openFound_252
abbrev t_Wa_openFound_248 : List UInt8 := 42 :: t_Wa_openFound_249
abbrev t_Wa_openFound_245 : List UInt8 := 180 :: 0 :: 18 :: t_Wa_openFound_248
abbrev t_Wa_openFound_244 : List UInt8 := 42 :: t_Wa_openFound_245
abbrev t_Wa_openFound_243 : List UInt8 := 79 :: t_Wa_openFound_244
abbrev t_Wa_openFound_242 : List UInt8 := 28 :: t_Wa_openFound_243
abbrev t_Wa_openFound_239 : List UInt8 := 180 :: 0 :: 65 :: t_Wa_openFound_242
abbrev t_Wa_openFound_238 : List UInt8 := 42 :: t_Wa_openFound_239
abbrev t_Wa_openFound_235 : List UInt8 := 180 :: 0 :: 15 :: t_Wa_openFound_238
abbrev t_Wa_openFound_234 : List UInt8 := 42 :: t_Wa_openFound_235
abbrev t_Wa_openFound_233 : List UInt8 := 79 :: t_Wa_openFound_234
abbrev t_Wa_openFound_232 : List UInt8 := 27 :: t_Wa_openFound_233
abbrev t_Wa_openFound_229 : List UInt8 := 180 :: 0 :: 65 :: t_Wa_openFound_232
abbrev t_Wa_openFound_228 : List UInt8 := 42 :: t_Wa_openFound_229
abbrev t_Wa_openFound_225 : List UInt8 := 180 :: 0 :: 9 :: t_Wa_openFound_228
abbrev t_Wa_openFound_224 : List UInt8 := 42 :: t_Wa_openFound_225
abbrev t_Wa_openFound_221 : List UInt8 := 167 :: 255 :: 47 :: t_Wa_openFound_224
abbrev t_Wa_openFound_218 : List UInt8 := 132 :: 5 :: 1 :: t_Wa_openFound_221
abbrev t_Wa_openFound_217 : List UInt8 := 79 :: t_Wa_openFound_218
abbrev t_Wa_openFound_216 : List UInt8 := 96 :: t_Wa_openFound_217
abbrev t_Wa_openFound_215 : List UInt8 := 4 :: t_Wa_openFound_216
abbrev t_Wa_openFound_214 : List UInt8 := 46 :: t_Wa_openFound_215
abbrev t_Wa_openFound_213 : List UInt8 := 92 :: t_Wa_openFound_214
abbrev t_Wa_openFound_211 : List UInt8 := 21 :: 7 :: t_Wa_openFound_213
abbrev t_Wa_openFound_208 : List UInt8 := 180 :: 0 :: 43 :: t_Wa_openFound_211
abbrev t_Wa_openFound_207 : List UInt8 := 42 :: t_Wa_openFound_208
abbrev t_Wa_openFound_206 : List UInt8 := 79 :: t_Wa_openFound_207
abbrev t_Wa_openFound_205 : List UInt8 := 46 :: t_Wa_openFound_206
abbrev t_Wa_openFound_204 : List UInt8 := 96 :: t_Wa_openFound_205
abbrev t_Wa_openFound_202 : List UInt8 := 21 :: 8 :: t_Wa_openFound_204
abbrev t_Wa_openFound_201 : List UInt8 := 104 :: t_Wa_openFound_202
abbrev t_Wa_openFound_199 : List UInt8 := 16 :: 16 :: t_Wa_openFound_201
abbrev t_Wa_openFound_198 : List UInt8 := 46 :: t_Wa_openFound_199
abbrev t_Wa_openFound_196 : List UInt8 := 21 :: 7 :: t_Wa_openFound_198
abbrev t_Wa_openFound_193 : List UInt8 := 180 :: 0 :: 113 :: t_Wa_openFound_196
abbrev t_Wa_openFound_191 : List UInt8 := 25 :: 4 :: t_Wa_openFound_193
abbrev t_Wa_openFound_188 : List UInt8 := 180 :: 0 :: 55 :: t_Wa_openFound_191
abbrev t_Wa_openFound_187 : List UInt8 := 42 :: t_Wa_openFound_188
abbrev t_Wa_openFound_185 : List UInt8 := 21 :: 7 :: t_Wa_openFound_187
abbrev t_Wa_openFound_182 : List UInt8 := 180 :: 0 :: 119 :: t_Wa_openFound_185
abbrev t_Wa_openFound_179 : List UInt8 := 180 :: 0 :: 58 :: t_Wa_openFound_182
abbrev t_Wa_openFound_178 : List UInt8 := 42 :: t_Wa_openFound_179
abbrev t_Wa_openFound_176 : List UInt8 := 54 :: 8 :: t_Wa_openFound_178
abbrev t_Wa_openFound_175 : List UInt8 := 96 :: t_Wa_openFound_176
abbrev t_Wa_openFound_174 : List UInt8 := 46 :: t_Wa_openFound_175
abbrev t_Wa_openFound_173 : List UInt8 := 130 :: t_Wa_openFound_174
abbrev t_Wa_openFound_172 : List UInt8 := 4 :: t_Wa_openFound_173
abbrev t_Wa_openFound_171 : List UInt8 := 46 :: t_Wa_openFound_172
abbrev t_Wa_openFound_170 : List UInt8 := 96 :: t_Wa_openFound_171
abbrev t_Wa_openFound_169 : List UInt8 := 4 :: t_Wa_openFound_170
abbrev t_Wa_openFound_167 : List UInt8 := 21 :: 5 :: t_Wa_openFound_169
abbrev t_Wa_openFound_164 : List UInt8 := 180 :: 0 :: 49 :: t_Wa_openFound_167
abbrev t_Wa_openFound_163 : List UInt8 := 42 :: t_Wa_openFound_164
abbrev t_Wa_openFound_160 : List UInt8 := 180 :: 0 :: 116 :: t_Wa_openFound_163
abbrev t_Wa_openFound_158 : List UInt8 := 25 :: 4 :: t_Wa_openFound_160
abbrev t_Wa_openFound_157 : List UInt8 := 104 :: t_Wa_openFound_158
abbrev t_Wa_openFound_156 : List UInt8 := 7 :: t_Wa_openFound_157
abbrev t_Wa_openFound_155 : List UInt8 := 46 :: t_Wa_openFound_156
abbrev t_Wa_openFound_154 : List UInt8 := 46 :: t_Wa_openFound_155
abbrev t_Wa_openFound_152 : List UInt8 := 21 :: 5 :: t_Wa_openFound_154
abbrev t_Wa_openFound_149 : List UInt8 := 180 :: 0 :: 49 :: t_Wa_openFound_152
abbrev t_Wa_openFound_148 : List UInt8 := 42 :: t_Wa_openFound_149
abbrev t_Wa_openFound_145 : List UInt8 := 180 :: 0 :: 116 :: t_Wa_openFound_148
abbrev t_Wa_openFound_143 : List UInt8 := 25 :: 4 :: t_Wa_openFound_145
abbrev t_Wa_openFound_140 : List UInt8 := 159 :: 0 :: 67 :: t_Wa_openFound_143
abbrev t_Wa_openFound_138 : List UInt8 := 16 :: 8 :: t_Wa_openFound_140
abbrev t_Wa_openFound_137 : List UInt8 := 46 :: t_Wa_openFound_138
abbrev t_Wa_openFound_135 : List UInt8 := 21 :: 7 :: t_Wa_openFound_137
abbrev t_Wa_openFound_132 : List UInt8 := 180 :: 0 :: 113 :: t_Wa_openFound_135
abbrev t_Wa_openFound_130 : List UInt8 := 25 :: 4 :: t_Wa_openFound_132
abbrev t_Wa_openFound_129 : List UInt8 := 79 :: t_Wa_openFound_130
abbrev t_Wa_openFound_128 : List UInt8 := 46 :: t_Wa_openFound_129
abbrev t_Wa_openFound_126 : List UInt8 := 21 :: 7 :: t_Wa_openFound_128
abbrev t_Wa_openFound_123 : List UInt8 := 180 :: 0 :: 119 :: t_Wa_openFound_126
abbrev t_Wa_openFound_120 : List UInt8 := 180 :: 0 :: 58 :: t_Wa_openFound_123
abbrev t_Wa_openFound_119 : List UInt8 := 42 :: t_Wa_openFound_120
abbrev t_Wa_openFound_117 : List UInt8 := 21 :: 7 :: t_Wa_openFound_119
abbrev t_Wa_openFound_114 : List UInt8 := 180 :: 0 :: 52 :: t_Wa_openFound_117
abbrev t_Wa_openFound_113 : List UInt8 := 42 :: t_Wa_openFound_114
abbrev t_Wa_openFound_111 : List UInt8 := 54 :: 7 :: t_Wa_openFound_113
abbrev t_Wa_openFound_110 : List UInt8 := 46 :: t_Wa_openFound_111
abbrev t_Wa_openFound_109 : List UInt8 := 46 :: t_Wa_openFound_110
abbrev t_Wa_openFound_107 : List UInt8 := 21 :: 5 :: t_Wa_openFound_109
abbrev t_Wa_openFound_104 : List UInt8 := 180 :: 0 :: 49 :: t_Wa_openFound_107
abbrev t_Wa_openFound_103 : List UInt8 := 42 :: t_Wa_openFound_104
abbrev t_Wa_openFound_100 : List UInt8 := 180 :: 0 :: 93 :: t_Wa_openFound_103
abbrev t_Wa_openFound_98 : List UInt8 := 25 :: 4 :: t_Wa_openFound_100
abbrev t_Wa_openFound_95 : List UInt8 := 162 :: 0 :: 123 :: t_Wa_openFound_98
abbrev t_Wa_openFound_92 : List UInt8 := 180 :: 0 :: 107 :: t_Wa_openFound_95
abbrev t_Wa_openFound_91 : List UInt8 := 42 :: t_Wa_openFound_92
abbrev t_Wa_openFound_90 : List UInt8 := 96 :: t_Wa_openFound_91
abbrev t_Wa_openFound_89 : List UInt8 := 4 :: t_Wa_openFound_90
abbrev t_Wa_openFound_87 : List UInt8 := 21 :: 5 :: t_Wa_openFound_89
abbrev t_Wa_openFound_86 : List UInt8 := 79 :: t_Wa_openFound_87
abbrev t_Wa_openFound_85 : List UInt8 := 2 :: t_Wa_openFound_86
abbrev t_Wa_openFound_82 : List UInt8 := 167 :: 0 :: 4 :: t_Wa_openFound_85
abbrev t_Wa_openFound_81 : List UInt8 := 122 :: t_Wa_openFound_82
abbrev t_Wa_openFound_80 : List UInt8 := 4 :: t_Wa_openFound_81
abbrev t_Wa_openFound_79 : List UInt8 := 46 :: t_Wa_openFound_80
abbrev t_Wa_openFound_78 : List UInt8 := 96 :: t_Wa_openFound_79
abbrev t_Wa_openFound_77 : List UInt8 := 4 :: t_Wa_openFound_78
abbrev t_Wa_openFound_75 : List UInt8 := 21 :: 5 :: t_Wa_openFound_77
abbrev t_Wa_openFound_72 : List UInt8 := 180 :: 0 :: 49 :: t_Wa_openFound_75
abbrev t_Wa_openFound_71 : List UInt8 := 42 :: t_Wa_openFound_72
abbrev t_Wa_openFound_68 : List UInt8 := 162 :: 0 :: 17 :: t_Wa_openFound_71
abbrev t_Wa_openFound_65 : List UInt8 := 180 :: 0 :: 107 :: t_Wa_openFound_68
abbrev t_Wa_openFound_64 : List UInt8 := 42 :: t_Wa_openFound_65
abbrev t_Wa_openFound_63 : List UInt8 := 96 :: t_Wa_openFound_64
abbrev t_Wa_openFound_62 : List UInt8 := 4 :: t_Wa_openFound_63
abbrev t_Wa_openFound_60 : List UInt8 := 21 :: 5 :: t_Wa_openFound_62
abbrev t_Wa_openFound_58 : List UInt8 := 21 :: 6 :: t_Wa_openFound_60
abbrev t_Wa_openFound_55 : List UInt8 := 180 :: 0 :: 36 :: t_Wa_openFound_58
abbrev t_Wa_openFound_54 : List UInt8 := 42 :: t_Wa_openFound_55
abbrev t_Wa_openFound_53 : List UInt8 := 79 :: t_Wa_openFound_54
abbrev t_Wa_openFound_52 : List UInt8 := 46 :: t_Wa_openFound_53
abbrev t_Wa_openFound_50 : List UInt8 := 21 :: 5 :: t_Wa_openFound_52
abbrev t_Wa_openFound_47 : List UInt8 := 180 :: 0 :: 49 :: t_Wa_openFound_50
abbrev t_Wa_openFound_46 : List UInt8 := 42 :: t_Wa_openFound_47
abbrev t_Wa_openFound_44 : List UInt8 := 21 :: 6 :: t_Wa_openFound_46
abbrev t_Wa_openFound_41 : List UInt8 := 180 :: 0 :: 33 :: t_Wa_openFound_44
abbrev t_Wa_openFound_40 : List UInt8 := 42 :: t_Wa_openFound_41
abbrev t_Wa_openFound_39 : List UInt8 := 84 :: t_Wa_openFound_40
abbrev t_Wa_openFound_38 : List UInt8 := 4 :: t_Wa_openFound_39
abbrev t_Wa_openFound_36 : List UInt8 := 21 :: 6 :: t_Wa_openFound_38
abbrev t_Wa_openFound_33 : List UInt8 := 180 :: 0 :: 39 :: t_Wa_openFound_36
abbrev t_Wa_openFound_32 : List UInt8 := 42 :: t_Wa_openFound_33
abbrev t_Wa_openFound_30 : List UInt8 := 54 :: 6 :: t_Wa_openFound_32
abbrev t_Wa_openFound_29 : List UInt8 := 122 :: t_Wa_openFound_30
abbrev t_Wa_openFound_28 : List UInt8 := 4 :: t_Wa_openFound_29
abbrev t_Wa_openFound_27 : List UInt8 := 46 :: t_Wa_openFound_28
abbrev t_Wa_openFound_25 : List UInt8 := 21 :: 5 :: t_Wa_openFound_27
abbrev t_Wa_openFound_22 : List UInt8 := 180 :: 0 :: 49 :: t_Wa_openFound_25
abbrev t_Wa_openFound_21 : List UInt8 := 42 :: t_Wa_openFound_22
abbrev t_Wa_openFound_18 : List UInt8 := 162 :: 0 :: 206 :: t_Wa_openFound_21
abbrev t_Wa_openFound_15 : List UInt8 := 180 :: 0 :: 107 :: t_Wa_openFound_18
abbrev t_Wa_openFound_14 : List UInt8 := 42 :: t_Wa_openFound_15
abbrev t_Wa_openFound_12 : List UInt8 := 21 :: 5 :: t_Wa_openFound_14
abbrev t_Wa_openFound_10 : List UInt8 := 54 :: 5 :: t_Wa_openFound_12
abbrev t_Wa_openFound_9 : List UInt8 := 3 :: t_Wa_openFound_10
abbrev t_Wa_openFound_7 : List UInt8 := 58 :: 4 :: t_Wa_openFound_9
abbrev t_Wa_openFound_4 : List UInt8 := 180 :: 0 :: 81 :: t_Wa_openFound_7
abbrev t_Wa_openFound_1 : List UInt8 := 180 :: 0 :: 58 :: t_Wa_openFound_4
abbrev t_Wa_openFound_0 : List UInt8 := 42 :: t_Wa_openFound_1
theorem a_Wa_openFound_0 : dk_at b_Wa_openFound 0 t_Wa_openFound_0 := dk_start (by decide +kernel)
theorem a_Wa_openFound_1 : dk_at b_Wa_openFound 1 t_Wa_openFound_1 := dk_go 1 a_Wa_openFound_0 rfl
theorem a_Wa_openFound_4 : dk_at b_Wa_openFound 4 t_Wa_openFound_4 := dk_go 3 a_Wa_openFound_1 rfl
theorem a_Wa_openFound_7 : dk_at b_Wa_openFound 7 t_Wa_openFound_7 := dk_go 3 a_Wa_openFound_4 rfl
theorem a_Wa_openFound_9 : dk_at b_Wa_openFound 9 t_Wa_openFound_9 := dk_go 2 a_Wa_openFound_7 rfl
theorem a_Wa_openFound_10 : dk_at b_Wa_openFound 10 t_Wa_openFound_10 := dk_go 1 a_Wa_openFound_9 rfl
theorem a_Wa_openFound_12 : dk_at b_Wa_openFound 12 t_Wa_openFound_12 := dk_go 2 a_Wa_openFound_10 rfl
theorem a_Wa_openFound_14 : dk_at b_Wa_openFound 14 t_Wa_openFound_14 := dk_go 2 a_Wa_openFound_12 rfl
theorem a_Wa_openFound_15 : dk_at b_Wa_openFound 15 t_Wa_openFound_15 := dk_go 1 a_Wa_openFound_14 rfl
theorem a_Wa_openFound_18 : dk_at b_Wa_openFound 18 t_Wa_openFound_18 := dk_go 3 a_Wa_openFound_15 rfl
theorem a_Wa_openFound_21 : dk_at b_Wa_openFound 21 t_Wa_openFound_21 := dk_go 3 a_Wa_openFound_18 rfl
theorem a_Wa_openFound_22 : dk_at b_Wa_openFound 22 t_Wa_openFound_22 := dk_go 1 a_Wa_openFound_21 rfl
theorem a_Wa_openFound_25 : dk_at b_Wa_openFound 25 t_Wa_openFound_25 := dk_go 3 a_Wa_openFound_22 rfl
theorem a_Wa_openFound_27 : dk_at b_Wa_openFound 27 t_Wa_openFound_27 := dk_go 2 a_Wa_openFound_25 rfl
theorem a_Wa_openFound_28 : dk_at b_Wa_openFound 28 t_Wa_openFound_28 := dk_go 1 a_Wa_openFound_27 rfl
theorem a_Wa_openFound_29 : dk_at b_Wa_openFound 29 t_Wa_openFound_29 := dk_go 1 a_Wa_openFound_28 rfl
theorem a_Wa_openFound_30 : dk_at b_Wa_openFound 30 t_Wa_openFound_30 := dk_go 1 a_Wa_openFound_29 rfl
theorem a_Wa_openFound_32 : dk_at b_Wa_openFound 32 t_Wa_openFound_32 := dk_go 2 a_Wa_openFound_30 rfl
theorem a_Wa_openFound_33 : dk_at b_Wa_openFound 33 t_Wa_openFound_33 := dk_go 1 a_Wa_openFound_32 rfl
theorem a_Wa_openFound_36 : dk_at b_Wa_openFound 36 t_Wa_openFound_36 := dk_go 3 a_Wa_openFound_33 rfl
theorem a_Wa_openFound_38 : dk_at b_Wa_openFound 38 t_Wa_openFound_38 := dk_go 2 a_Wa_openFound_36 rfl
theorem a_Wa_openFound_39 : dk_at b_Wa_openFound 39 t_Wa_openFound_39 := dk_go 1 a_Wa_openFound_38 rfl
theorem a_Wa_openFound_40 : dk_at b_Wa_openFound 40 t_Wa_openFound_40 := dk_go 1 a_Wa_openFound_39 rfl
theorem a_Wa_openFound_41 : dk_at b_Wa_openFound 41 t_Wa_openFound_41 := dk_go 1 a_Wa_openFound_40 rfl
theorem a_Wa_openFound_44 : dk_at b_Wa_openFound 44 t_Wa_openFound_44 := dk_go 3 a_Wa_openFound_41 rfl
theorem a_Wa_openFound_46 : dk_at b_Wa_openFound 46 t_Wa_openFound_46 := dk_go 2 a_Wa_openFound_44 rfl
theorem a_Wa_openFound_47 : dk_at b_Wa_openFound 47 t_Wa_openFound_47 := dk_go 1 a_Wa_openFound_46 rfl
theorem a_Wa_openFound_50 : dk_at b_Wa_openFound 50 t_Wa_openFound_50 := dk_go 3 a_Wa_openFound_47 rfl
theorem a_Wa_openFound_52 : dk_at b_Wa_openFound 52 t_Wa_openFound_52 := dk_go 2 a_Wa_openFound_50 rfl
theorem a_Wa_openFound_53 : dk_at b_Wa_openFound 53 t_Wa_openFound_53 := dk_go 1 a_Wa_openFound_52 rfl
theorem a_Wa_openFound_54 : dk_at b_Wa_openFound 54 t_Wa_openFound_54 := dk_go 1 a_Wa_openFound_53 rfl
theorem a_Wa_openFound_55 : dk_at b_Wa_openFound 55 t_Wa_openFound_55 := dk_go 1 a_Wa_openFound_54 rfl
theorem a_Wa_openFound_58 : dk_at b_Wa_openFound 58 t_Wa_openFound_58 := dk_go 3 a_Wa_openFound_55 rfl
theorem a_Wa_openFound_60 : dk_at b_Wa_openFound 60 t_Wa_openFound_60 := dk_go 2 a_Wa_openFound_58 rfl
theorem a_Wa_openFound_62 : dk_at b_Wa_openFound 62 t_Wa_openFound_62 := dk_go 2 a_Wa_openFound_60 rfl
theorem a_Wa_openFound_63 : dk_at b_Wa_openFound 63 t_Wa_openFound_63 := dk_go 1 a_Wa_openFound_62 rfl
theorem a_Wa_openFound_64 : dk_at b_Wa_openFound 64 t_Wa_openFound_64 := dk_go 1 a_Wa_openFound_63 rfl
theorem a_Wa_openFound_65 : dk_at b_Wa_openFound 65 t_Wa_openFound_65 := dk_go 1 a_Wa_openFound_64 rfl
theorem a_Wa_openFound_68 : dk_at b_Wa_openFound 68 t_Wa_openFound_68 := dk_go 3 a_Wa_openFound_65 rfl
theorem a_Wa_openFound_71 : dk_at b_Wa_openFound 71 t_Wa_openFound_71 := dk_go 3 a_Wa_openFound_68 rfl
theorem a_Wa_openFound_72 : dk_at b_Wa_openFound 72 t_Wa_openFound_72 := dk_go 1 a_Wa_openFound_71 rfl
theorem a_Wa_openFound_75 : dk_at b_Wa_openFound 75 t_Wa_openFound_75 := dk_go 3 a_Wa_openFound_72 rfl
theorem a_Wa_openFound_77 : dk_at b_Wa_openFound 77 t_Wa_openFound_77 := dk_go 2 a_Wa_openFound_75 rfl
theorem a_Wa_openFound_78 : dk_at b_Wa_openFound 78 t_Wa_openFound_78 := dk_go 1 a_Wa_openFound_77 rfl
theorem a_Wa_openFound_79 : dk_at b_Wa_openFound 79 t_Wa_openFound_79 := dk_go 1 a_Wa_openFound_78 rfl
theorem a_Wa_openFound_80 : dk_at b_Wa_openFound 80 t_Wa_openFound_80 := dk_go 1 a_Wa_openFound_79 rfl
theorem a_Wa_openFound_81 : dk_at b_Wa_openFound 81 t_Wa_openFound_81 := dk_go 1 a_Wa_openFound_80 rfl
theorem a_Wa_openFound_82 : dk_at b_Wa_openFound 82 t_Wa_openFound_82 := dk_go 1 a_Wa_openFound_81 rfl
theorem a_Wa_openFound_85 : dk_at b_Wa_openFound 85 t_Wa_openFound_85 := dk_go 3 a_Wa_openFound_82 rfl
theorem a_Wa_openFound_86 : dk_at b_Wa_openFound 86 t_Wa_openFound_86 := dk_go 1 a_Wa_openFound_85 rfl
theorem a_Wa_openFound_87 : dk_at b_Wa_openFound 87 t_Wa_openFound_87 := dk_go 1 a_Wa_openFound_86 rfl
theorem a_Wa_openFound_89 : dk_at b_Wa_openFound 89 t_Wa_openFound_89 := dk_go 2 a_Wa_openFound_87 rfl
theorem a_Wa_openFound_90 : dk_at b_Wa_openFound 90 t_Wa_openFound_90 := dk_go 1 a_Wa_openFound_89 rfl
theorem a_Wa_openFound_91 : dk_at b_Wa_openFound 91 t_Wa_openFound_91 := dk_go 1 a_Wa_openFound_90 rfl
theorem a_Wa_openFound_92 : dk_at b_Wa_openFound 92 t_Wa_openFound_92 := dk_go 1 a_Wa_openFound_91 rfl
theorem a_Wa_openFound_95 : dk_at b_Wa_openFound 95 t_Wa_openFound_95 := dk_go 3 a_Wa_openFound_92 rfl
theorem a_Wa_openFound_98 : dk_at b_Wa_openFound 98 t_Wa_openFound_98 := dk_go 3 a_Wa_openFound_95 rfl
theorem a_Wa_openFound_100 : dk_at b_Wa_openFound 100 t_Wa_openFound_100 := dk_go 2 a_Wa_openFound_98 rfl
theorem a_Wa_openFound_103 : dk_at b_Wa_openFound 103 t_Wa_openFound_103 := dk_go 3 a_Wa_openFound_100 rfl
theorem a_Wa_openFound_104 : dk_at b_Wa_openFound 104 t_Wa_openFound_104 := dk_go 1 a_Wa_openFound_103 rfl
theorem a_Wa_openFound_107 : dk_at b_Wa_openFound 107 t_Wa_openFound_107 := dk_go 3 a_Wa_openFound_104 rfl
theorem a_Wa_openFound_109 : dk_at b_Wa_openFound 109 t_Wa_openFound_109 := dk_go 2 a_Wa_openFound_107 rfl
theorem a_Wa_openFound_110 : dk_at b_Wa_openFound 110 t_Wa_openFound_110 := dk_go 1 a_Wa_openFound_109 rfl
theorem a_Wa_openFound_111 : dk_at b_Wa_openFound 111 t_Wa_openFound_111 := dk_go 1 a_Wa_openFound_110 rfl
theorem a_Wa_openFound_113 : dk_at b_Wa_openFound 113 t_Wa_openFound_113 := dk_go 2 a_Wa_openFound_111 rfl
theorem a_Wa_openFound_114 : dk_at b_Wa_openFound 114 t_Wa_openFound_114 := dk_go 1 a_Wa_openFound_113 rfl
theorem a_Wa_openFound_117 : dk_at b_Wa_openFound 117 t_Wa_openFound_117 := dk_go 3 a_Wa_openFound_114 rfl
theorem a_Wa_openFound_119 : dk_at b_Wa_openFound 119 t_Wa_openFound_119 := dk_go 2 a_Wa_openFound_117 rfl
theorem a_Wa_openFound_120 : dk_at b_Wa_openFound 120 t_Wa_openFound_120 := dk_go 1 a_Wa_openFound_119 rfl
theorem a_Wa_openFound_123 : dk_at b_Wa_openFound 123 t_Wa_openFound_123 := dk_go 3 a_Wa_openFound_120 rfl
theorem a_Wa_openFound_126 : dk_at b_Wa_openFound 126 t_Wa_openFound_126 := dk_go 3 a_Wa_openFound_123 rfl
theorem a_Wa_openFound_128 : dk_at b_Wa_openFound 128 t_Wa_openFound_128 := dk_go 2 a_Wa_openFound_126 rfl
theorem a_Wa_openFound_129 : dk_at b_Wa_openFound 129 t_Wa_openFound_129 := dk_go 1 a_Wa_openFound_128 rfl
theorem a_Wa_openFound_130 : dk_at b_Wa_openFound 130 t_Wa_openFound_130 := dk_go 1 a_Wa_openFound_129 rfl
theorem a_Wa_openFound_132 : dk_at b_Wa_openFound 132 t_Wa_openFound_132 := dk_go 2 a_Wa_openFound_130 rfl
theorem a_Wa_openFound_135 : dk_at b_Wa_openFound 135 t_Wa_openFound_135 := dk_go 3 a_Wa_openFound_132 rfl
theorem a_Wa_openFound_137 : dk_at b_Wa_openFound 137 t_Wa_openFound_137 := dk_go 2 a_Wa_openFound_135 rfl
theorem a_Wa_openFound_138 : dk_at b_Wa_openFound 138 t_Wa_openFound_138 := dk_go 1 a_Wa_openFound_137 rfl
theorem a_Wa_openFound_140 : dk_at b_Wa_openFound 140 t_Wa_openFound_140 := dk_go 2 a_Wa_openFound_138 rfl
theorem a_Wa_openFound_143 : dk_at b_Wa_openFound 143 t_Wa_openFound_143 := dk_go 3 a_Wa_openFound_140 rfl
theorem a_Wa_openFound_145 : dk_at b_Wa_openFound 145 t_Wa_openFound_145 := dk_go 2 a_Wa_openFound_143 rfl
theorem a_Wa_openFound_148 : dk_at b_Wa_openFound 148 t_Wa_openFound_148 := dk_go 3 a_Wa_openFound_145 rfl
theorem a_Wa_openFound_149 : dk_at b_Wa_openFound 149 t_Wa_openFound_149 := dk_go 1 a_Wa_openFound_148 rfl
theorem a_Wa_openFound_152 : dk_at b_Wa_openFound 152 t_Wa_openFound_152 := dk_go 3 a_Wa_openFound_149 rfl
theorem a_Wa_openFound_154 : dk_at b_Wa_openFound 154 t_Wa_openFound_154 := dk_go 2 a_Wa_openFound_152 rfl
theorem a_Wa_openFound_155 : dk_at b_Wa_openFound 155 t_Wa_openFound_155 := dk_go 1 a_Wa_openFound_154 rfl
theorem a_Wa_openFound_156 : dk_at b_Wa_openFound 156 t_Wa_openFound_156 := dk_go 1 a_Wa_openFound_155 rfl
theorem a_Wa_openFound_157 : dk_at b_Wa_openFound 157 t_Wa_openFound_157 := dk_go 1 a_Wa_openFound_156 rfl
theorem a_Wa_openFound_158 : dk_at b_Wa_openFound 158 t_Wa_openFound_158 := dk_go 1 a_Wa_openFound_157 rfl
theorem a_Wa_openFound_160 : dk_at b_Wa_openFound 160 t_Wa_openFound_160 := dk_go 2 a_Wa_openFound_158 rfl
theorem a_Wa_openFound_163 : dk_at b_Wa_openFound 163 t_Wa_openFound_163 := dk_go 3 a_Wa_openFound_160 rfl
theorem a_Wa_openFound_164 : dk_at b_Wa_openFound 164 t_Wa_openFound_164 := dk_go 1 a_Wa_openFound_163 rfl
theorem a_Wa_openFound_167 : dk_at b_Wa_openFound 167 t_Wa_openFound_167 := dk_go 3 a_Wa_openFound_164 rfl
theorem a_Wa_openFound_169 : dk_at b_Wa_openFound 169 t_Wa_openFound_169 := dk_go 2 a_Wa_openFound_167 rfl
theorem a_Wa_openFound_170 : dk_at b_Wa_openFound 170 t_Wa_openFound_170 := dk_go 1 a_Wa_openFound_169 rfl
theorem a_Wa_openFound_171 : dk_at b_Wa_openFound 171 t_Wa_openFound_171 := dk_go 1 a_Wa_openFound_170 rfl
theorem a_Wa_openFound_172 : dk_at b_Wa_openFound 172 t_Wa_openFound_172 := dk_go 1 a_Wa_openFound_171 rfl
theorem a_Wa_openFound_173 : dk_at b_Wa_openFound 173 t_Wa_openFound_173 := dk_go 1 a_Wa_openFound_172 rfl
theorem a_Wa_openFound_174 : dk_at b_Wa_openFound 174 t_Wa_openFound_174 := dk_go 1 a_Wa_openFound_173 rfl
theorem a_Wa_openFound_175 : dk_at b_Wa_openFound 175 t_Wa_openFound_175 := dk_go 1 a_Wa_openFound_174 rfl
theorem a_Wa_openFound_176 : dk_at b_Wa_openFound 176 t_Wa_openFound_176 := dk_go 1 a_Wa_openFound_175 rfl
theorem a_Wa_openFound_178 : dk_at b_Wa_openFound 178 t_Wa_openFound_178 := dk_go 2 a_Wa_openFound_176 rfl
theorem a_Wa_openFound_179 : dk_at b_Wa_openFound 179 t_Wa_openFound_179 := dk_go 1 a_Wa_openFound_178 rfl
theorem a_Wa_openFound_182 : dk_at b_Wa_openFound 182 t_Wa_openFound_182 := dk_go 3 a_Wa_openFound_179 rfl
theorem a_Wa_openFound_185 : dk_at b_Wa_openFound 185 t_Wa_openFound_185 := dk_go 3 a_Wa_openFound_182 rfl
theorem a_Wa_openFound_187 : dk_at b_Wa_openFound 187 t_Wa_openFound_187 := dk_go 2 a_Wa_openFound_185 rfl
theorem a_Wa_openFound_188 : dk_at b_Wa_openFound 188 t_Wa_openFound_188 := dk_go 1 a_Wa_openFound_187 rfl
theorem a_Wa_openFound_191 : dk_at b_Wa_openFound 191 t_Wa_openFound_191 := dk_go 3 a_Wa_openFound_188 rfl
theorem a_Wa_openFound_193 : dk_at b_Wa_openFound 193 t_Wa_openFound_193 := dk_go 2 a_Wa_openFound_191 rfl
theorem a_Wa_openFound_196 : dk_at b_Wa_openFound 196 t_Wa_openFound_196 := dk_go 3 a_Wa_openFound_193 rfl
theorem a_Wa_openFound_198 : dk_at b_Wa_openFound 198 t_Wa_openFound_198 := dk_go 2 a_Wa_openFound_196 rfl
theorem a_Wa_openFound_199 : dk_at b_Wa_openFound 199 t_Wa_openFound_199 := dk_go 1 a_Wa_openFound_198 rfl
theorem a_Wa_openFound_201 : dk_at b_Wa_openFound 201 t_Wa_openFound_201 := dk_go 2 a_Wa_openFound_199 rfl
theorem a_Wa_openFound_202 : dk_at b_Wa_openFound 202 t_Wa_openFound_202 := dk_go 1 a_Wa_openFound_201 rfl
theorem a_Wa_openFound_204 : dk_at b_Wa_openFound 204 t_Wa_openFound_204 := dk_go 2 a_Wa_openFound_202 rfl
theorem a_Wa_openFound_205 : dk_at b_Wa_openFound 205 t_Wa_openFound_205 := dk_go 1 a_Wa_openFound_204 rfl
theorem a_Wa_openFound_206 : dk_at b_Wa_openFound 206 t_Wa_openFound_206 := dk_go 1 a_Wa_openFound_205 rfl
theorem a_Wa_openFound_207 : dk_at b_Wa_openFound 207 t_Wa_openFound_207 := dk_go 1 a_Wa_openFound_206 rfl
theorem a_Wa_openFound_208 : dk_at b_Wa_openFound 208 t_Wa_openFound_208 := dk_go 1 a_Wa_openFound_207 rfl
theorem a_Wa_openFound_211 : dk_at b_Wa_openFound 211 t_Wa_openFound_211 := dk_go 3 a_Wa_openFound_208 rfl
theorem a_Wa_openFound_213 : dk_at b_Wa_openFound 213 t_Wa_openFound_213 := dk_go 2 a_Wa_openFound_211 rfl
theorem a_Wa_openFound_214 : dk_at b_Wa_openFound 214 t_Wa_openFound_214 := dk_go 1 a_Wa_openFound_213 rfl
theorem a_Wa_openFound_215 : dk_at b_Wa_openFound 215 t_Wa_openFound_215 := dk_go 1 a_Wa_openFound_214 rfl
theorem a_Wa_openFound_216 : dk_at b_Wa_openFound 216 t_Wa_openFound_216 := dk_go 1 a_Wa_openFound_215 rfl
theorem a_Wa_openFound_217 : dk_at b_Wa_openFound 217 t_Wa_openFound_217 := dk_go 1 a_Wa_openFound_216 rfl
theorem a_Wa_openFound_218 : dk_at b_Wa_openFound 218 t_Wa_openFound_218 := dk_go 1 a_Wa_openFound_217 rfl
theorem a_Wa_openFound_221 : dk_at b_Wa_openFound 221 t_Wa_openFound_221 := dk_go 3 a_Wa_openFound_218 rfl
theorem a_Wa_openFound_224 : dk_at b_Wa_openFound 224 t_Wa_openFound_224 := dk_go 3 a_Wa_openFound_221 rfl
theorem a_Wa_openFound_225 : dk_at b_Wa_openFound 225 t_Wa_openFound_225 := dk_go 1 a_Wa_openFound_224 rfl
theorem a_Wa_openFound_228 : dk_at b_Wa_openFound 228 t_Wa_openFound_228 := dk_go 3 a_Wa_openFound_225 rfl
theorem a_Wa_openFound_229 : dk_at b_Wa_openFound 229 t_Wa_openFound_229 := dk_go 1 a_Wa_openFound_228 rfl
theorem a_Wa_openFound_232 : dk_at b_Wa_openFound 232 t_Wa_openFound_232 := dk_go 3 a_Wa_openFound_229 rfl
theorem a_Wa_openFound_233 : dk_at b_Wa_openFound 233 t_Wa_openFound_233 := dk_go 1 a_Wa_openFound_232 rfl
theorem a_Wa_openFound_234 : dk_at b_Wa_openFound 234 t_Wa_openFound_234 := dk_go 1 a_Wa_openFound_233 rfl
theorem a_Wa_openFound_235 : dk_at b_Wa_openFound 235 t_Wa_openFound_235 := dk_go 1 a_Wa_openFound_234 rfl
theorem a_Wa_openFound_238 : dk_at b_Wa_openFound 238 t_Wa_openFound_238 := dk_go 3 a_Wa_openFound_235 rfl
theorem a_Wa_openFound_239 : dk_at b_Wa_openFound 239 t_Wa_openFound_239 := dk_go 1 a_Wa_openFound_238 rfl
theorem a_Wa_openFound_242 : dk_at b_Wa_openFound 242 t_Wa_openFound_242 := dk_go 3 a_Wa_openFound_239 rfl
theorem a_Wa_openFound_243 : dk_at b_Wa_openFound 243 t_Wa_openFound_243 := dk_go 1 a_Wa_openFound_242 rfl
theorem a_Wa_openFound_244 : dk_at b_Wa_openFound 244 t_Wa_openFound_244 := dk_go 1 a_Wa_openFound_243 rfl
theorem a_Wa_openFound_245 : dk_at b_Wa_openFound 245 t_Wa_openFound_245 := dk_go 1 a_Wa_openFound_244 rfl
theorem a_Wa_openFound_248 : dk_at b_Wa_openFound 248 t_Wa_openFound_248 := dk_go 3 a_Wa_openFound_245 rfl
theorem a_Wa_openFound_249 : dk_at b_Wa_openFound 249 t_Wa_openFound_249 := dk_go 1 a_Wa_openFound_248 rfl
theorem a_Wa_openFound_252 : dk_at b_Wa_openFound 252 t_Wa_openFound_252 := dk_go 3 a_Wa_openFound_249 rfl
theorem a_Wa_openFound_253 : dk_at b_Wa_openFound 253 t_Wa_openFound_253 := dk_go 1 a_Wa_openFound_252 rfl
theorem a_Wa_openFound_254 : dk_at b_Wa_openFound 254 t_Wa_openFound_254 := dk_go 1 a_Wa_openFound_253 rfl
theorem a_Wa_openFound_255 : dk_at b_Wa_openFound 255 t_Wa_openFound_255 := dk_go 1 a_Wa_openFound_254 rfl
theorem a_Wa_openFound_258 : dk_at b_Wa_openFound 258 t_Wa_openFound_258 := dk_go 3 a_Wa_openFound_255 rfl
theorem a_Wa_openFound_259 : dk_at b_Wa_openFound 259 t_Wa_openFound_259 := dk_go 1 a_Wa_openFound_258 rfl
theorem a_Wa_openFound_262 : dk_at b_Wa_openFound 262 t_Wa_openFound_262 := dk_go 3 a_Wa_openFound_259 rfl
theorem a_Wa_openFound_263 : dk_at b_Wa_openFound 263 t_Wa_openFound_263 := dk_go 1 a_Wa_openFound_262 rfl
theorem a_Wa_openFound_266 : dk_at b_Wa_openFound 266 t_Wa_openFound_266 := dk_go 3 a_Wa_openFound_263 rfl
theorem a_Wa_openFound_269 : dk_at b_Wa_openFound 269 t_Wa_openFound_269 := dk_go 3 a_Wa_openFound_266 rfl
theorem a_Wa_openFound_270 : dk_at b_Wa_openFound 270 t_Wa_openFound_270 := dk_go 1 a_Wa_openFound_269 rfl
theorem a_Wa_openFound_271 : dk_at b_Wa_openFound 271 t_Wa_openFound_271 := dk_go 1 a_Wa_openFound_270 rfl
theorem a_Wa_openFound_272 : dk_at b_Wa_openFound 272 t_Wa_openFound_272 := dk_go 1 a_Wa_openFound_271 rfl
theorem a_Wa_openFound_273 : dk_at b_Wa_openFound 273 t_Wa_openFound_273 := dk_go 1 a_Wa_openFound_272 rfl
theorem a_Wa_openFound_276 : dk_at b_Wa_openFound 276 t_Wa_openFound_276 := dk_go 3 a_Wa_openFound_273 rfl
theorem a_Wa_openFound_277 : dk_at b_Wa_openFound 277 t_Wa_openFound_277 := dk_go 1 a_Wa_openFound_276 rfl
theorem a_Wa_openFound_280 : dk_at b_Wa_openFound 280 t_Wa_openFound_280 := dk_go 3 a_Wa_openFound_277 rfl
theorem a_Wa_openFound_281 : dk_at b_Wa_openFound 281 t_Wa_openFound_281 := dk_go 1 a_Wa_openFound_280 rfl
theorem a_Wa_openFound_284 : dk_at b_Wa_openFound 284 t_Wa_openFound_284 := dk_go 3 a_Wa_openFound_281 rfl
theorem a_Wa_openFound_285 : dk_at b_Wa_openFound 285 t_Wa_openFound_285 := dk_go 1 a_Wa_openFound_284 rfl
theorem a_Wa_openFound_286 : dk_at b_Wa_openFound 286 t_Wa_openFound_286 := dk_go 1 a_Wa_openFound_285 rfl
theorem a_Wa_openFound_289 : dk_at b_Wa_openFound 289 t_Wa_openFound_289 := dk_go 3 a_Wa_openFound_286 rfl
theorem a_Wa_openFound_290 : dk_at b_Wa_openFound 290 t_Wa_openFound_290 := dk_go 1 a_Wa_openFound_289 rfl
theorem a_Wa_openFound_293 : dk_at b_Wa_openFound 293 t_Wa_openFound_293 := dk_go 3 a_Wa_openFound_290 rfl
theorem a_Wa_openFound_294 : dk_at b_Wa_openFound 294 t_Wa_openFound_294 := dk_go 1 a_Wa_openFound_293 rfl
theorem a_Wa_openFound_297 : dk_at b_Wa_openFound 297 t_Wa_openFound_297 := dk_go 3 a_Wa_openFound_294 rfl
theorem a_Wa_openFound_298 : dk_at b_Wa_openFound 298 t_Wa_openFound_298 := dk_go 1 a_Wa_openFound_297 rfl
theorem a_Wa_openFound_299 : dk_at b_Wa_openFound 299 t_Wa_openFound_299 := dk_go 1 a_Wa_openFound_298 rfl
theorem a_Wa_openFound_300 : dk_at b_Wa_openFound 300 t_Wa_openFound_300 := dk_go 1 a_Wa_openFound_299 rfl
theorem a_Wa_openFound_301 : dk_at b_Wa_openFound 301 t_Wa_openFound_301 := dk_go 1 a_Wa_openFound_300 rfl
theorem a_Wa_openFound_302 : dk_at b_Wa_openFound 302 t_Wa_openFound_302 := dk_go 1 a_Wa_openFound_301 rfl
theorem a_Wa_openFound_303 : dk_at b_Wa_openFound 303 t_Wa_openFound_303 := dk_go 1 a_Wa_openFound_302 rfl
theorem a_Wa_openFound_306 : dk_at b_Wa_openFound 306 t_Wa_openFound_306 := dk_go 3 a_Wa_openFound_303 rfl
theorem a_Wa_openFound_307 : dk_at b_Wa_openFound 307 t_Wa_openFound_307 := dk_go 1 a_Wa_openFound_306 rfl
theorem a_Wa_openFound_310 : dk_at b_Wa_openFound 310 t_Wa_openFound_310 := dk_go 3 a_Wa_openFound_307 rfl
theorem a_Wa_openFound_311 : dk_at b_Wa_openFound 311 t_Wa_openFound_311 := dk_go 1 a_Wa_openFound_310 rfl
theorem a_Wa_openFound_314 : dk_at b_Wa_openFound 314 t_Wa_openFound_314 := dk_go 3 a_Wa_openFound_311 rfl
theorem a_Wa_openFound_315 : dk_at b_Wa_openFound 315 t_Wa_openFound_315 := dk_go 1 a_Wa_openFound_314 rfl
theorem a_Wa_openFound_318 : dk_at b_Wa_openFound 318 t_Wa_openFound_318 := dk_go 3 a_Wa_openFound_315 rfl
theorem a_Wa_openFound_319 : dk_at b_Wa_openFound 319 t_Wa_openFound_319 := dk_go 1 a_Wa_openFound_318 rfl
theorem a_Wa_openFound_320 : dk_at b_Wa_openFound 320 t_Wa_openFound_320 := dk_go 1 a_Wa_openFound_319 rfl
theorem a_Wa_openFound_321 : dk_at b_Wa_openFound 321 t_Wa_openFound_321 := dk_go 1 a_Wa_openFound_320 rfl
theorem a_Wa_openFound_322 : dk_at b_Wa_openFound 322 t_Wa_openFound_322 := dk_go 1 a_Wa_openFound_321 rfl
theorem a_Wa_openFound_323 : dk_at b_Wa_openFound 323 t_Wa_openFound_323 := dk_go 1 a_Wa_openFound_322 rfl
theorem a_Wa_openFound_324 : dk_at b_Wa_openFound 324 t_Wa_openFound_324 := dk_go 1 a_Wa_openFound_323 rfl
theorem a_Wa_openFound_325 : dk_at b_Wa_openFound 325 t_Wa_openFound_325 := dk_go 1 a_Wa_openFound_324 rfl
theorem a_Wa_openFound_326 : dk_at b_Wa_openFound 326 t_Wa_openFound_326 := dk_go 1 a_Wa_openFound_325 rfl
theorem a_Wa_openFound_329 : dk_at b_Wa_openFound 329 t_Wa_openFound_329 := dk_go 3 a_Wa_openFound_326 rfl
theorem a_Wa_openFound_330 : dk_at b_Wa_openFound 330 t_Wa_openFound_330 := dk_go 1 a_Wa_openFound_329 rfl
theorem a_Wa_openFound_331 : dk_at b_Wa_openFound 331 t_Wa_openFound_331 := dk_go 1 a_Wa_openFound_330 rfl
theorem a_Wa_openFound_334 : dk_at b_Wa_openFound 334 t_Wa_openFound_334 := dk_go 3 a_Wa_openFound_331 rfl
theorem d_Wa_openFound_0 : decode b_Wa_openFound 0 = .ok (.aload_n 0, 1) := dk_0 a_Wa_openFound_0 (dko_42 _)
theorem d_Wa_openFound_1 : decode b_Wa_openFound 1 = .ok (.getfield 58, 3) := dk_U2 a_Wa_openFound_1 (dko_180 _) rfl
theorem d_Wa_openFound_4 : decode b_Wa_openFound 4 = .ok (.getfield 81, 3) := dk_U2 a_Wa_openFound_4 (dko_180 _) rfl
theorem d_Wa_openFound_7 : decode b_Wa_openFound 7 = .ok (.astore 4, 2) := dk_U1 a_Wa_openFound_7 (dko_58 _) rfl
theorem d_Wa_openFound_9 : decode b_Wa_openFound 9 = .ok (.iconst 0, 1) := dk_0 a_Wa_openFound_9 (dko_3 _)
theorem d_Wa_openFound_10 : decode b_Wa_openFound 10 = .ok (.istore 5, 2) := dk_U1 a_Wa_openFound_10 (dko_54 _) rfl
theorem d_Wa_openFound_12 : decode b_Wa_openFound 12 = .ok (.iload 5, 2) := dk_U1 a_Wa_openFound_12 (dko_21 _) rfl
theorem d_Wa_openFound_14 : decode b_Wa_openFound 14 = .ok (.aload_n 0, 1) := dk_0 a_Wa_openFound_14 (dko_42 _)
theorem d_Wa_openFound_15 : decode b_Wa_openFound 15 = .ok (.getfield 107, 3) := dk_U2 a_Wa_openFound_15 (dko_180 _) rfl
theorem d_Wa_openFound_18 : decode b_Wa_openFound 18 = .ok (.if_icmp .ge 206, 3) := dk_S2 a_Wa_openFound_18 (dko_162 _) (by decide +kernel)
theorem d_Wa_openFound_21 : decode b_Wa_openFound 21 = .ok (.aload_n 0, 1) := dk_0 a_Wa_openFound_21 (dko_42 _)
theorem d_Wa_openFound_22 : decode b_Wa_openFound 22 = .ok (.getfield 49, 3) := dk_U2 a_Wa_openFound_22 (dko_180 _) rfl
theorem d_Wa_openFound_25 : decode b_Wa_openFound 25 = .ok (.iload 5, 2) := dk_U1 a_Wa_openFound_25 (dko_21 _) rfl
theorem d_Wa_openFound_27 : decode b_Wa_openFound 27 = .ok (.iaload, 1) := dk_0 a_Wa_openFound_27 (dko_46 _)
theorem d_Wa_openFound_28 : decode b_Wa_openFound 28 = .ok (.iconst 1, 1) := dk_0 a_Wa_openFound_28 (dko_4 _)
theorem d_Wa_openFound_29 : decode b_Wa_openFound 29 = .ok (.ishr, 1) := dk_0 a_Wa_openFound_29 (dko_122 _)
theorem d_Wa_openFound_30 : decode b_Wa_openFound 30 = .ok (.istore 6, 2) := dk_U1 a_Wa_openFound_30 (dko_54 _) rfl
theorem d_Wa_openFound_32 : decode b_Wa_openFound 32 = .ok (.aload_n 0, 1) := dk_0 a_Wa_openFound_32 (dko_42 _)
theorem d_Wa_openFound_33 : decode b_Wa_openFound 33 = .ok (.getfield 39, 3) := dk_U2 a_Wa_openFound_33 (dko_180 _) rfl
theorem d_Wa_openFound_36 : decode b_Wa_openFound 36 = .ok (.iload 6, 2) := dk_U1 a_Wa_openFound_36 (dko_21 _) rfl
theorem d_Wa_openFound_38 : decode b_Wa_openFound 38 = .ok (.iconst 1, 1) := dk_0 a_Wa_openFound_38 (dko_4 _)
theorem d_Wa_openFound_39 : decode b_Wa_openFound 39 = .ok (.bastore, 1) := dk_0 a_Wa_openFound_39 (dko_84 _)
theorem d_Wa_openFound_40 : decode b_Wa_openFound 40 = .ok (.aload_n 0, 1) := dk_0 a_Wa_openFound_40 (dko_42 _)
theorem d_Wa_openFound_41 : decode b_Wa_openFound 41 = .ok (.getfield 33, 3) := dk_U2 a_Wa_openFound_41 (dko_180 _) rfl
theorem d_Wa_openFound_44 : decode b_Wa_openFound 44 = .ok (.iload 6, 2) := dk_U1 a_Wa_openFound_44 (dko_21 _) rfl
theorem d_Wa_openFound_46 : decode b_Wa_openFound 46 = .ok (.aload_n 0, 1) := dk_0 a_Wa_openFound_46 (dko_42 _)
theorem d_Wa_openFound_47 : decode b_Wa_openFound 47 = .ok (.getfield 49, 3) := dk_U2 a_Wa_openFound_47 (dko_180 _) rfl
theorem d_Wa_openFound_50 : decode b_Wa_openFound 50 = .ok (.iload 5, 2) := dk_U1 a_Wa_openFound_50 (dko_21 _) rfl
theorem d_Wa_openFound_52 : decode b_Wa_openFound 52 = .ok (.iaload, 1) := dk_0 a_Wa_openFound_52 (dko_46 _)
theorem d_Wa_openFound_53 : decode b_Wa_openFound 53 = .ok (.iastore, 1) := dk_0 a_Wa_openFound_53 (dko_79 _)
theorem d_Wa_openFound_54 : decode b_Wa_openFound 54 = .ok (.aload_n 0, 1) := dk_0 a_Wa_openFound_54 (dko_42 _)
theorem d_Wa_openFound_55 : decode b_Wa_openFound 55 = .ok (.getfield 36, 3) := dk_U2 a_Wa_openFound_55 (dko_180 _) rfl
theorem d_Wa_openFound_58 : decode b_Wa_openFound 58 = .ok (.iload 6, 2) := dk_U1 a_Wa_openFound_58 (dko_21 _) rfl
theorem d_Wa_openFound_60 : decode b_Wa_openFound 60 = .ok (.iload 5, 2) := dk_U1 a_Wa_openFound_60 (dko_21 _) rfl
theorem d_Wa_openFound_62 : decode b_Wa_openFound 62 = .ok (.iconst 1, 1) := dk_0 a_Wa_openFound_62 (dko_4 _)
theorem d_Wa_openFound_63 : decode b_Wa_openFound 63 = .ok (.iadd, 1) := dk_0 a_Wa_openFound_63 (dko_96 _)
theorem d_Wa_openFound_64 : decode b_Wa_openFound 64 = .ok (.aload_n 0, 1) := dk_0 a_Wa_openFound_64 (dko_42 _)
theorem d_Wa_openFound_65 : decode b_Wa_openFound 65 = .ok (.getfield 107, 3) := dk_U2 a_Wa_openFound_65 (dko_180 _) rfl
theorem d_Wa_openFound_68 : decode b_Wa_openFound 68 = .ok (.if_icmp .ge 17, 3) := dk_S2 a_Wa_openFound_68 (dko_162 _) (by decide +kernel)
theorem d_Wa_openFound_71 : decode b_Wa_openFound 71 = .ok (.aload_n 0, 1) := dk_0 a_Wa_openFound_71 (dko_42 _)
theorem d_Wa_openFound_72 : decode b_Wa_openFound 72 = .ok (.getfield 49, 3) := dk_U2 a_Wa_openFound_72 (dko_180 _) rfl
theorem d_Wa_openFound_75 : decode b_Wa_openFound 75 = .ok (.iload 5, 2) := dk_U1 a_Wa_openFound_75 (dko_21 _) rfl
theorem d_Wa_openFound_77 : decode b_Wa_openFound 77 = .ok (.iconst 1, 1) := dk_0 a_Wa_openFound_77 (dko_4 _)
theorem d_Wa_openFound_78 : decode b_Wa_openFound 78 = .ok (.iadd, 1) := dk_0 a_Wa_openFound_78 (dko_96 _)
theorem d_Wa_openFound_79 : decode b_Wa_openFound 79 = .ok (.iaload, 1) := dk_0 a_Wa_openFound_79 (dko_46 _)
theorem d_Wa_openFound_80 : decode b_Wa_openFound 80 = .ok (.iconst 1, 1) := dk_0 a_Wa_openFound_80 (dko_4 _)
theorem d_Wa_openFound_81 : decode b_Wa_openFound 81 = .ok (.ishr, 1) := dk_0 a_Wa_openFound_81 (dko_122 _)
theorem d_Wa_openFound_82 : decode b_Wa_openFound 82 = .ok (.goto 4, 3) := dk_S2 a_Wa_openFound_82 (dko_167 _) (by decide +kernel)
theorem d_Wa_openFound_85 : decode b_Wa_openFound 85 = .ok (.iconst (-1), 1) := dk_0 a_Wa_openFound_85 (dko_2 _)
theorem d_Wa_openFound_86 : decode b_Wa_openFound 86 = .ok (.iastore, 1) := dk_0 a_Wa_openFound_86 (dko_79 _)
theorem d_Wa_openFound_87 : decode b_Wa_openFound 87 = .ok (.iload 5, 2) := dk_U1 a_Wa_openFound_87 (dko_21 _) rfl
theorem d_Wa_openFound_89 : decode b_Wa_openFound 89 = .ok (.iconst 1, 1) := dk_0 a_Wa_openFound_89 (dko_4 _)
theorem d_Wa_openFound_90 : decode b_Wa_openFound 90 = .ok (.iadd, 1) := dk_0 a_Wa_openFound_90 (dko_96 _)
theorem d_Wa_openFound_91 : decode b_Wa_openFound 91 = .ok (.aload_n 0, 1) := dk_0 a_Wa_openFound_91 (dko_42 _)
theorem d_Wa_openFound_92 : decode b_Wa_openFound 92 = .ok (.getfield 107, 3) := dk_U2 a_Wa_openFound_92 (dko_180 _) rfl
theorem d_Wa_openFound_95 : decode b_Wa_openFound 95 = .ok (.if_icmp .ge 123, 3) := dk_S2 a_Wa_openFound_95 (dko_162 _) (by decide +kernel)
theorem d_Wa_openFound_98 : decode b_Wa_openFound 98 = .ok (.aload 4, 2) := dk_U1 a_Wa_openFound_98 (dko_25 _) rfl
theorem d_Wa_openFound_100 : decode b_Wa_openFound 100 = .ok (.getfield 93, 3) := dk_U2 a_Wa_openFound_100 (dko_180 _) rfl
theorem d_Wa_openFound_103 : decode b_Wa_openFound 103 = .ok (.aload_n 0, 1) := dk_0 a_Wa_openFound_103 (dko_42 _)
theorem d_Wa_openFound_104 : decode b_Wa_openFound 104 = .ok (.getfield 49, 3) := dk_U2 a_Wa_openFound_104 (dko_180 _) rfl
theorem d_Wa_openFound_107 : decode b_Wa_openFound 107 = .ok (.iload 5, 2) := dk_U1 a_Wa_openFound_107 (dko_21 _) rfl
theorem d_Wa_openFound_109 : decode b_Wa_openFound 109 = .ok (.iaload, 1) := dk_0 a_Wa_openFound_109 (dko_46 _)
theorem d_Wa_openFound_110 : decode b_Wa_openFound 110 = .ok (.iaload, 1) := dk_0 a_Wa_openFound_110 (dko_46 _)
theorem d_Wa_openFound_111 : decode b_Wa_openFound 111 = .ok (.istore 7, 2) := dk_U1 a_Wa_openFound_111 (dko_54 _) rfl
theorem d_Wa_openFound_113 : decode b_Wa_openFound 113 = .ok (.aload_n 0, 1) := dk_0 a_Wa_openFound_113 (dko_42 _)
theorem d_Wa_openFound_114 : decode b_Wa_openFound 114 = .ok (.getfield 52, 3) := dk_U2 a_Wa_openFound_114 (dko_180 _) rfl
theorem d_Wa_openFound_117 : decode b_Wa_openFound 117 = .ok (.iload 7, 2) := dk_U1 a_Wa_openFound_117 (dko_21 _) rfl
theorem d_Wa_openFound_119 : decode b_Wa_openFound 119 = .ok (.aload_n 0, 1) := dk_0 a_Wa_openFound_119 (dko_42 _)
theorem d_Wa_openFound_120 : decode b_Wa_openFound 120 = .ok (.getfield 58, 3) := dk_U2 a_Wa_openFound_120 (dko_180 _) rfl
theorem d_Wa_openFound_123 : decode b_Wa_openFound 123 = .ok (.getfield 119, 3) := dk_U2 a_Wa_openFound_123 (dko_180 _) rfl
theorem d_Wa_openFound_126 : decode b_Wa_openFound 126 = .ok (.iload 7, 2) := dk_U1 a_Wa_openFound_126 (dko_21 _) rfl
theorem d_Wa_openFound_128 : decode b_Wa_openFound 128 = .ok (.iaload, 1) := dk_0 a_Wa_openFound_128 (dko_46 _)
theorem d_Wa_openFound_129 : decode b_Wa_openFound 129 = .ok (.iastore, 1) := dk_0 a_Wa_openFound_129 (dko_79 _)
theorem d_Wa_openFound_130 : decode b_Wa_openFound 130 = .ok (.aload 4, 2) := dk_U1 a_Wa_openFound_130 (dko_25 _) rfl
theorem d_Wa_openFound_132 : decode b_Wa_openFound 132 = .ok (.getfield 113, 3) := dk_U2 a_Wa_openFound_132 (dko_180 _) rfl
theorem d_Wa_openFound_135 : decode b_Wa_openFound 135 = .ok (.iload 7, 2) := dk_U1 a_Wa_openFound_135 (dko_21 _) rfl
theorem d_Wa_openFound_137 : decode b_Wa_openFound 137 = .ok (.iaload, 1) := dk_0 a_Wa_openFound_137 (dko_46 _)
theorem d_Wa_openFound_138 : decode b_Wa_openFound 138 = .ok (.bipush 8, 2) := dk_S1 a_Wa_openFound_138 (dko_16 _) (by decide +kernel)
theorem d_Wa_openFound_140 : decode b_Wa_openFound 140 = .ok (.if_icmp .eq 67, 3) := dk_S2 a_Wa_openFound_140 (dko_159 _) (by decide +kernel)
theorem d_Wa_openFound_143 : decode b_Wa_openFound 143 = .ok (.aload 4, 2) := dk_U1 a_Wa_openFound_143 (dko_25 _) rfl
theorem d_Wa_openFound_145 : decode b_Wa_openFound 145 = .ok (.getfield 116, 3) := dk_U2 a_Wa_openFound_145 (dko_180 _) rfl
theorem d_Wa_openFound_148 : decode b_Wa_openFound 148 = .ok (.aload_n 0, 1) := dk_0 a_Wa_openFound_148 (dko_42 _)
theorem d_Wa_openFound_149 : decode b_Wa_openFound 149 = .ok (.getfield 49, 3) := dk_U2 a_Wa_openFound_149 (dko_180 _) rfl
theorem d_Wa_openFound_152 : decode b_Wa_openFound 152 = .ok (.iload 5, 2) := dk_U1 a_Wa_openFound_152 (dko_21 _) rfl
theorem d_Wa_openFound_154 : decode b_Wa_openFound 154 = .ok (.iaload, 1) := dk_0 a_Wa_openFound_154 (dko_46 _)
theorem d_Wa_openFound_155 : decode b_Wa_openFound 155 = .ok (.iaload, 1) := dk_0 a_Wa_openFound_155 (dko_46 _)
theorem d_Wa_openFound_156 : decode b_Wa_openFound 156 = .ok (.iconst 4, 1) := dk_0 a_Wa_openFound_156 (dko_7 _)
theorem d_Wa_openFound_157 : decode b_Wa_openFound 157 = .ok (.imul, 1) := dk_0 a_Wa_openFound_157 (dko_104 _)
theorem d_Wa_openFound_158 : decode b_Wa_openFound 158 = .ok (.aload 4, 2) := dk_U1 a_Wa_openFound_158 (dko_25 _) rfl
theorem d_Wa_openFound_160 : decode b_Wa_openFound 160 = .ok (.getfield 116, 3) := dk_U2 a_Wa_openFound_160 (dko_180 _) rfl
theorem d_Wa_openFound_163 : decode b_Wa_openFound 163 = .ok (.aload_n 0, 1) := dk_0 a_Wa_openFound_163 (dko_42 _)
theorem d_Wa_openFound_164 : decode b_Wa_openFound 164 = .ok (.getfield 49, 3) := dk_U2 a_Wa_openFound_164 (dko_180 _) rfl
theorem d_Wa_openFound_167 : decode b_Wa_openFound 167 = .ok (.iload 5, 2) := dk_U1 a_Wa_openFound_167 (dko_21 _) rfl
theorem d_Wa_openFound_169 : decode b_Wa_openFound 169 = .ok (.iconst 1, 1) := dk_0 a_Wa_openFound_169 (dko_4 _)
theorem d_Wa_openFound_170 : decode b_Wa_openFound 170 = .ok (.iadd, 1) := dk_0 a_Wa_openFound_170 (dko_96 _)
theorem d_Wa_openFound_171 : decode b_Wa_openFound 171 = .ok (.iaload, 1) := dk_0 a_Wa_openFound_171 (dko_46 _)
theorem d_Wa_openFound_172 : decode b_Wa_openFound 172 = .ok (.iconst 1, 1) := dk_0 a_Wa_openFound_172 (dko_4 _)
theorem d_Wa_openFound_173 : decode b_Wa_openFound 173 = .ok (.ixor, 1) := dk_0 a_Wa_openFound_173 (dko_130 _)
theorem d_Wa_openFound_174 : decode b_Wa_openFound 174 = .ok (.iaload, 1) := dk_0 a_Wa_openFound_174 (dko_46 _)
theorem d_Wa_openFound_175 : decode b_Wa_openFound 175 = .ok (.iadd, 1) := dk_0 a_Wa_openFound_175 (dko_96 _)
theorem d_Wa_openFound_176 : decode b_Wa_openFound 176 = .ok (.istore 8, 2) := dk_U1 a_Wa_openFound_176 (dko_54 _) rfl
theorem d_Wa_openFound_178 : decode b_Wa_openFound 178 = .ok (.aload_n 0, 1) := dk_0 a_Wa_openFound_178 (dko_42 _)
theorem d_Wa_openFound_179 : decode b_Wa_openFound 179 = .ok (.getfield 58, 3) := dk_U2 a_Wa_openFound_179 (dko_180 _) rfl
theorem d_Wa_openFound_182 : decode b_Wa_openFound 182 = .ok (.getfield 119, 3) := dk_U2 a_Wa_openFound_182 (dko_180 _) rfl
theorem d_Wa_openFound_185 : decode b_Wa_openFound 185 = .ok (.iload 7, 2) := dk_U1 a_Wa_openFound_185 (dko_21 _) rfl
theorem d_Wa_openFound_187 : decode b_Wa_openFound 187 = .ok (.aload_n 0, 1) := dk_0 a_Wa_openFound_187 (dko_42 _)
theorem d_Wa_openFound_188 : decode b_Wa_openFound 188 = .ok (.getfield 55, 3) := dk_U2 a_Wa_openFound_188 (dko_180 _) rfl
theorem d_Wa_openFound_191 : decode b_Wa_openFound 191 = .ok (.aload 4, 2) := dk_U1 a_Wa_openFound_191 (dko_25 _) rfl
theorem d_Wa_openFound_193 : decode b_Wa_openFound 193 = .ok (.getfield 113, 3) := dk_U2 a_Wa_openFound_193 (dko_180 _) rfl
theorem d_Wa_openFound_196 : decode b_Wa_openFound 196 = .ok (.iload 7, 2) := dk_U1 a_Wa_openFound_196 (dko_21 _) rfl
theorem d_Wa_openFound_198 : decode b_Wa_openFound 198 = .ok (.iaload, 1) := dk_0 a_Wa_openFound_198 (dko_46 _)
theorem d_Wa_openFound_199 : decode b_Wa_openFound 199 = .ok (.bipush 16, 2) := dk_S1 a_Wa_openFound_199 (dko_16 _) (by decide +kernel)
theorem d_Wa_openFound_201 : decode b_Wa_openFound 201 = .ok (.imul, 1) := dk_0 a_Wa_openFound_201 (dko_104 _)
theorem d_Wa_openFound_202 : decode b_Wa_openFound 202 = .ok (.iload 8, 2) := dk_U1 a_Wa_openFound_202 (dko_21 _) rfl
theorem d_Wa_openFound_204 : decode b_Wa_openFound 204 = .ok (.iadd, 1) := dk_0 a_Wa_openFound_204 (dko_96 _)
theorem d_Wa_openFound_205 : decode b_Wa_openFound 205 = .ok (.iaload, 1) := dk_0 a_Wa_openFound_205 (dko_46 _)
theorem d_Wa_openFound_206 : decode b_Wa_openFound 206 = .ok (.iastore, 1) := dk_0 a_Wa_openFound_206 (dko_79 _)
theorem d_Wa_openFound_207 : decode b_Wa_openFound 207 = .ok (.aload_n 0, 1) := dk_0 a_Wa_openFound_207 (dko_42 _)
theorem d_Wa_openFound_208 : decode b_Wa_openFound 208 = .ok (.getfield 43, 3) := dk_U2 a_Wa_openFound_208 (dko_180 _) rfl
theorem d_Wa_openFound_211 : decode b_Wa_openFound 211 = .ok (.iload 7, 2) := dk_U1 a_Wa_openFound_211 (dko_21 _) rfl
theorem d_Wa_openFound_213 : decode b_Wa_openFound 213 = .ok (.dup2, 1) := dk_0 a_Wa_openFound_213 (dko_92 _)
theorem d_Wa_openFound_214 : decode b_Wa_openFound 214 = .ok (.iaload, 1) := dk_0 a_Wa_openFound_214 (dko_46 _)
theorem d_Wa_openFound_215 : decode b_Wa_openFound 215 = .ok (.iconst 1, 1) := dk_0 a_Wa_openFound_215 (dko_4 _)
theorem d_Wa_openFound_216 : decode b_Wa_openFound 216 = .ok (.iadd, 1) := dk_0 a_Wa_openFound_216 (dko_96 _)
theorem d_Wa_openFound_217 : decode b_Wa_openFound 217 = .ok (.iastore, 1) := dk_0 a_Wa_openFound_217 (dko_79 _)
theorem d_Wa_openFound_218 : decode b_Wa_openFound 218 = .ok (.iinc 5 1, 3) := dk_US a_Wa_openFound_218 (dko_132 _) (by decide +kernel)
theorem d_Wa_openFound_221 : decode b_Wa_openFound 221 = .ok (.goto (-209), 3) := dk_S2 a_Wa_openFound_221 (dko_167 _) (by decide +kernel)
theorem d_Wa_openFound_224 : decode b_Wa_openFound 224 = .ok (.aload_n 0, 1) := dk_0 a_Wa_openFound_224 (dko_42 _)
theorem d_Wa_openFound_225 : decode b_Wa_openFound 225 = .ok (.getfield 9, 3) := dk_U2 a_Wa_openFound_225 (dko_180 _) rfl
theorem d_Wa_openFound_228 : decode b_Wa_openFound 228 = .ok (.aload_n 0, 1) := dk_0 a_Wa_openFound_228 (dko_42 _)
theorem d_Wa_openFound_229 : decode b_Wa_openFound 229 = .ok (.getfield 65, 3) := dk_U2 a_Wa_openFound_229 (dko_180 _) rfl
theorem d_Wa_openFound_232 : decode b_Wa_openFound 232 = .ok (.iload_n 1, 1) := dk_0 a_Wa_openFound_232 (dko_27 _)
theorem d_Wa_openFound_233 : decode b_Wa_openFound 233 = .ok (.iastore, 1) := dk_0 a_Wa_openFound_233 (dko_79 _)
theorem d_Wa_openFound_234 : decode b_Wa_openFound 234 = .ok (.aload_n 0, 1) := dk_0 a_Wa_openFound_234 (dko_42 _)
theorem d_Wa_openFound_235 : decode b_Wa_openFound 235 = .ok (.getfield 15, 3) := dk_U2 a_Wa_openFound_235 (dko_180 _) rfl
theorem d_Wa_openFound_238 : decode b_Wa_openFound 238 = .ok (.aload_n 0, 1) := dk_0 a_Wa_openFound_238 (dko_42 _)
theorem d_Wa_openFound_239 : decode b_Wa_openFound 239 = .ok (.getfield 65, 3) := dk_U2 a_Wa_openFound_239 (dko_180 _) rfl
theorem d_Wa_openFound_242 : decode b_Wa_openFound 242 = .ok (.iload_n 2, 1) := dk_0 a_Wa_openFound_242 (dko_28 _)
theorem d_Wa_openFound_243 : decode b_Wa_openFound 243 = .ok (.iastore, 1) := dk_0 a_Wa_openFound_243 (dko_79 _)
theorem d_Wa_openFound_244 : decode b_Wa_openFound 244 = .ok (.aload_n 0, 1) := dk_0 a_Wa_openFound_244 (dko_42 _)
theorem d_Wa_openFound_245 : decode b_Wa_openFound 245 = .ok (.getfield 18, 3) := dk_U2 a_Wa_openFound_245 (dko_180 _) rfl
theorem d_Wa_openFound_248 : decode b_Wa_openFound 248 = .ok (.aload_n 0, 1) := dk_0 a_Wa_openFound_248 (dko_42 _)
theorem d_Wa_openFound_249 : decode b_Wa_openFound 249 = .ok (.getfield 65, 3) := dk_U2 a_Wa_openFound_249 (dko_180 _) rfl
theorem d_Wa_openFound_252 : decode b_Wa_openFound 252 = .ok (.iload_n 3, 1) := dk_0 a_Wa_openFound_252 (dko_29 _)
theorem d_Wa_openFound_253 : decode b_Wa_openFound 253 = .ok (.iastore, 1) := dk_0 a_Wa_openFound_253 (dko_79 _)
theorem d_Wa_openFound_254 : decode b_Wa_openFound 254 = .ok (.aload_n 0, 1) := dk_0 a_Wa_openFound_254 (dko_42 _)
theorem d_Wa_openFound_255 : decode b_Wa_openFound 255 = .ok (.getfield 21, 3) := dk_U2 a_Wa_openFound_255 (dko_180 _) rfl
theorem d_Wa_openFound_258 : decode b_Wa_openFound 258 = .ok (.aload_n 0, 1) := dk_0 a_Wa_openFound_258 (dko_42 _)
theorem d_Wa_openFound_259 : decode b_Wa_openFound 259 = .ok (.getfield 65, 3) := dk_U2 a_Wa_openFound_259 (dko_180 _) rfl
theorem d_Wa_openFound_262 : decode b_Wa_openFound 262 = .ok (.aload_n 0, 1) := dk_0 a_Wa_openFound_262 (dko_42 _)
theorem d_Wa_openFound_263 : decode b_Wa_openFound 263 = .ok (.getfield 58, 3) := dk_U2 a_Wa_openFound_263 (dko_180 _) rfl
theorem d_Wa_openFound_266 : decode b_Wa_openFound 266 = .ok (.getfield 122, 3) := dk_U2 a_Wa_openFound_266 (dko_180 _) rfl
theorem d_Wa_openFound_269 : decode b_Wa_openFound 269 = .ok (.iload_n 1, 1) := dk_0 a_Wa_openFound_269 (dko_27 _)
theorem d_Wa_openFound_270 : decode b_Wa_openFound 270 = .ok (.iaload, 1) := dk_0 a_Wa_openFound_270 (dko_46 _)
theorem d_Wa_openFound_271 : decode b_Wa_openFound 271 = .ok (.iastore, 1) := dk_0 a_Wa_openFound_271 (dko_79 _)
theorem d_Wa_openFound_272 : decode b_Wa_openFound 272 = .ok (.aload_n 0, 1) := dk_0 a_Wa_openFound_272 (dko_42 _)
theorem d_Wa_openFound_273 : decode b_Wa_openFound 273 = .ok (.getfield 24, 3) := dk_U2 a_Wa_openFound_273 (dko_180 _) rfl
theorem d_Wa_openFound_276 : decode b_Wa_openFound 276 = .ok (.aload_n 0, 1) := dk_0 a_Wa_openFound_276 (dko_42 _)
theorem d_Wa_openFound_277 : decode b_Wa_openFound 277 = .ok (.getfield 65, 3) := dk_U2 a_Wa_openFound_277 (dko_180 _) rfl
theorem d_Wa_openFound_280 : decode b_Wa_openFound 280 = .ok (.aload_n 0, 1) := dk_0 a_Wa_openFound_280 (dko_42 _)
theorem d_Wa_openFound_281 : decode b_Wa_openFound 281 = .ok (.getfield 107, 3) := dk_U2 a_Wa_openFound_281 (dko_180 _) rfl
theorem d_Wa_openFound_284 : decode b_Wa_openFound 284 = .ok (.iastore, 1) := dk_0 a_Wa_openFound_284 (dko_79 _)
theorem d_Wa_openFound_285 : decode b_Wa_openFound 285 = .ok (.aload_n 0, 1) := dk_0 a_Wa_openFound_285 (dko_42 _)
theorem d_Wa_openFound_286 : decode b_Wa_openFound 286 = .ok (.getfield 27, 3) := dk_U2 a_Wa_openFound_286 (dko_180 _) rfl
theorem d_Wa_openFound_289 : decode b_Wa_openFound 289 = .ok (.aload_n 0, 1) := dk_0 a_Wa_openFound_289 (dko_42 _)
theorem d_Wa_openFound_290 : decode b_Wa_openFound 290 = .ok (.getfield 65, 3) := dk_U2 a_Wa_openFound_290 (dko_180 _) rfl
theorem d_Wa_openFound_293 : decode b_Wa_openFound 293 = .ok (.aload_n 0, 1) := dk_0 a_Wa_openFound_293 (dko_42 _)
theorem d_Wa_openFound_294 : decode b_Wa_openFound 294 = .ok (.getfield 49, 3) := dk_U2 a_Wa_openFound_294 (dko_180 _) rfl
theorem d_Wa_openFound_297 : decode b_Wa_openFound 297 = .ok (.iconst 0, 1) := dk_0 a_Wa_openFound_297 (dko_3 _)
theorem d_Wa_openFound_298 : decode b_Wa_openFound 298 = .ok (.iaload, 1) := dk_0 a_Wa_openFound_298 (dko_46 _)
theorem d_Wa_openFound_299 : decode b_Wa_openFound 299 = .ok (.iconst 1, 1) := dk_0 a_Wa_openFound_299 (dko_4 _)
theorem d_Wa_openFound_300 : decode b_Wa_openFound 300 = .ok (.ishr, 1) := dk_0 a_Wa_openFound_300 (dko_122 _)
theorem d_Wa_openFound_301 : decode b_Wa_openFound 301 = .ok (.iastore, 1) := dk_0 a_Wa_openFound_301 (dko_79 _)
theorem d_Wa_openFound_302 : decode b_Wa_openFound 302 = .ok (.aload_n 0, 1) := dk_0 a_Wa_openFound_302 (dko_42 _)
theorem d_Wa_openFound_303 : decode b_Wa_openFound 303 = .ok (.getfield 30, 3) := dk_U2 a_Wa_openFound_303 (dko_180 _) rfl
theorem d_Wa_openFound_306 : decode b_Wa_openFound 306 = .ok (.aload_n 0, 1) := dk_0 a_Wa_openFound_306 (dko_42 _)
theorem d_Wa_openFound_307 : decode b_Wa_openFound 307 = .ok (.getfield 65, 3) := dk_U2 a_Wa_openFound_307 (dko_180 _) rfl
theorem d_Wa_openFound_310 : decode b_Wa_openFound 310 = .ok (.aload_n 0, 1) := dk_0 a_Wa_openFound_310 (dko_42 _)
theorem d_Wa_openFound_311 : decode b_Wa_openFound 311 = .ok (.getfield 49, 3) := dk_U2 a_Wa_openFound_311 (dko_180 _) rfl
theorem d_Wa_openFound_314 : decode b_Wa_openFound 314 = .ok (.aload_n 0, 1) := dk_0 a_Wa_openFound_314 (dko_42 _)
theorem d_Wa_openFound_315 : decode b_Wa_openFound 315 = .ok (.getfield 107, 3) := dk_U2 a_Wa_openFound_315 (dko_180 _) rfl
theorem d_Wa_openFound_318 : decode b_Wa_openFound 318 = .ok (.iconst 1, 1) := dk_0 a_Wa_openFound_318 (dko_4 _)
theorem d_Wa_openFound_319 : decode b_Wa_openFound 319 = .ok (.isub, 1) := dk_0 a_Wa_openFound_319 (dko_100 _)
theorem d_Wa_openFound_320 : decode b_Wa_openFound 320 = .ok (.iaload, 1) := dk_0 a_Wa_openFound_320 (dko_46 _)
theorem d_Wa_openFound_321 : decode b_Wa_openFound 321 = .ok (.iconst 1, 1) := dk_0 a_Wa_openFound_321 (dko_4 _)
theorem d_Wa_openFound_322 : decode b_Wa_openFound 322 = .ok (.ishr, 1) := dk_0 a_Wa_openFound_322 (dko_122 _)
theorem d_Wa_openFound_323 : decode b_Wa_openFound 323 = .ok (.iastore, 1) := dk_0 a_Wa_openFound_323 (dko_79 _)
theorem d_Wa_openFound_324 : decode b_Wa_openFound 324 = .ok (.aload_n 0, 1) := dk_0 a_Wa_openFound_324 (dko_42 _)
theorem d_Wa_openFound_325 : decode b_Wa_openFound 325 = .ok (.dup, 1) := dk_0 a_Wa_openFound_325 (dko_89 _)
theorem d_Wa_openFound_326 : decode b_Wa_openFound 326 = .ok (.getfield 65, 3) := dk_U2 a_Wa_openFound_326 (dko_180 _) rfl
theorem d_Wa_openFound_329 : decode b_Wa_openFound 329 = .ok (.iconst 1, 1) := dk_0 a_Wa_openFound_329 (dko_4 _)
theorem d_Wa_openFound_330 : decode b_Wa_openFound 330 = .ok (.iadd, 1) := dk_0 a_Wa_openFound_330 (dko_96 _)
theorem d_Wa_openFound_331 : decode b_Wa_openFound 331 = .ok (.putfield 65, 3) := dk_U2 a_Wa_openFound_331 (dko_181 _) rfl
theorem d_Wa_openFound_334 : decode b_Wa_openFound 334 = .ok (.return_, 1) := dk_0 a_Wa_openFound_334 (dko_177 _)
set_option maxHeartbeats 4000000 in
set_option maxRecDepth 100000 in
theorem ok_Wa_openFound (pc : Nat) : OpS mt mi_Wa_openFound pc (cs_Wa_openFound pc) := (os_n (os_n (os_n (os_n (os_n (os_n (os_n (os_l (so_aload_n d_Wa_openFound_0 rfl)) (os_n (os_l (so_get (C := R_Wa) (T := F_Wa) (N := 18) (j := 0) in_Wa rfl (by decide) mw_217 d_Wa_openFound_1)) (os_l (so_get (C := R_St) (T := F_St) (N := 12) (j := 0) in_St rfl (by decide) mw_152 d_Wa_openFound_4)))) (os_n (os_l (so_astore d_Wa_openFound_7 (by decide))) (os_n (os_l (so_iconst d_Wa_openFound_9 (by decide))) (os_l (so_istore d_Wa_openFound_10 (by decide)))))) (os_n (os_n (os_l (so_iload d_Wa_openFound_12)) (os_n (os_l (so_aload_n d_Wa_openFound_14 rfl)) (os_l (so_get (C := R_Wa) (T := F_Wa) (N := 18) (j := 15) in_Wa rfl (by decide) mw_235 d_Wa_openFound_15)))) (os_n (os_l (so_icge d_Wa_openFound_18 (by decide))) (os_n (os_l (so_aload_n d_Wa_openFound_21 rfl)) (os_l (so_get (C := R_Wa) (T := F_Wa) (N := 18) (j := 14) in_Wa rfl (by decide) mw_232 d_Wa_openFound_22)))))) (os_n (os_n (os_n (os_l (so_iload d_Wa_openFound_25)) (os_n (os_l (so_iaload d_Wa_openFound_27)) (os_l (so_iconst d_Wa_openFound_28 (by decide))))) (os_n (os_l (so_ishr d_Wa_openFound_29)) (os_n (os_l (so_istore d_Wa_openFound_30 (by decide))) (os_l (so_aload_n d_Wa_openFound_32 rfl))))) (os_n (os_n (os_l (so_get (C := R_Wa) (T := F_Wa) (N := 18) (j := 11) in_Wa rfl (by decide) mw_229 d_Wa_openFound_33)) (os_n (os_l (so_iload d_Wa_openFound_36)) (os_l (so_iconst d_Wa_openFound_38 (by decide))))) (os_n (os_l (so_bastore d_Wa_openFound_39)) (os_n (os_l (so_aload_n d_Wa_openFound_40 rfl)) (os_l (so_get (C := R_Wa) (T := F_Wa) (N := 18) (j := 9) in_Wa rfl (by decide) mw_227 d_Wa_openFound_41))))))) (os_n (os_n (os_n (os_n (os_l (so_iload d_Wa_openFound_44)) (os_n (os_l (so_aload_n d_Wa_openFound_46 rfl)) (os_l (so_get (C := R_Wa) (T := F_Wa) (N := 18) (j := 14) in_Wa rfl (by decide) mw_232 d_Wa_openFound_47)))) (os_n (os_l (so_iload d_Wa_openFound_50)) (os_n (os_l (so_iaload d_Wa_openFound_52)) (os_l (so_iastore d_Wa_openFound_53))))) (os_n (os_n (os_l (so_aload_n d_Wa_openFound_54 rfl)) (os_n (os_l (so_get (C := R_Wa) (T := F_Wa) (N := 18) (j := 10) in_Wa rfl (by decide) mw_228 d_Wa_openFound_55)) (os_l (so_iload d_Wa_openFound_58)))) (os_n (os_l (so_iload d_Wa_openFound_60)) (os_n (os_l (so_iconst d_Wa_openFound_62 (by decide))) (os_l (so_iadd d_Wa_openFound_63)))))) (os_n (os_n (os_n (os_l (so_aload_n d_Wa_openFound_64 rfl)) (os_n (os_l (so_get (C := R_Wa) (T := F_Wa) (N := 18) (j := 15) in_Wa rfl (by decide) mw_235 d_Wa_openFound_65)) (os_l (so_icge d_Wa_openFound_68 (by decide))))) (os_n (os_l (so_aload_n d_Wa_openFound_71 rfl)) (os_n (os_l (so_get (C := R_Wa) (T := F_Wa) (N := 18) (j := 14) in_Wa rfl (by decide) mw_232 d_Wa_openFound_72)) (os_l (so_iload d_Wa_openFound_75))))) (os_n (os_n (os_l (so_iconst d_Wa_openFound_77 (by decide))) (os_n (os_l (so_iadd d_Wa_openFound_78)) (os_l (so_iaload d_Wa_openFound_79)))) (os_n (os_l (so_iconst d_Wa_openFound_80 (by decide))) (os_n (os_l (so_ishr d_Wa_openFound_81)) (os_l (so_goto d_Wa_openFound_82 (by decide))))))))) (os_n (os_n (os_n (os_n (os_n (os_l (so_iconst d_Wa_openFound_85 (by decide))) (os_n (os_l (so_iastore d_Wa_openFound_86)) (os_l (so_iload d_Wa_openFound_87)))) (os_n (os_l (so_iconst d_Wa_openFound_89 (by decide))) (os_n (os_l (so_iadd d_Wa_openFound_90)) (os_l (so_aload_n d_Wa_openFound_91 rfl))))) (os_n (os_n (os_l (so_get (C := R_Wa) (T := F_Wa) (N := 18) (j := 15) in_Wa rfl (by decide) mw_235 d_Wa_openFound_92)) (os_n (os_l (so_icge d_Wa_openFound_95 (by decide))) (os_l (so_aload d_Wa_openFound_98)))) (os_n (os_l (so_get (C := R_Pl) (T := F_Pl) (N := 12) (j := 6) in_Pl rfl (by decide) mw_110 d_Wa_openFound_100)) (os_n (os_l (so_aload_n d_Wa_openFound_103 rfl)) (os_l (so_get (C := R_Wa) (T := F_Wa) (N := 18) (j := 14) in_Wa rfl (by decide) mw_232 d_Wa_openFound_104)))))) (os_n (os_n (os_n (os_l (so_iload d_Wa_openFound_107)) (os_n (os_l (so_iaload d_Wa_openFound_109)) (os_l (so_iaload d_Wa_openFound_110)))) (os_n (os_l (so_istore d_Wa_openFound_111 (by decide))) (os_n (os_l (so_aload_n d_Wa_openFound_113 rfl)) (os_l (so_get (C := R_Wa) (T := F_Wa) (N := 18) (j := 16) in_Wa rfl (by decide) mw_236 d_Wa_openFound_114))))) (os_n (os_n (os_l (so_iload d_Wa_openFound_117)) (os_n (os_l (so_aload_n d_Wa_openFound_119 rfl)) (os_l (so_get (C := R_Wa) (T := F_Wa) (N := 18) (j := 0) in_Wa rfl (by decide) mw_217 d_Wa_openFound_120)))) (os_n (os_l (so_get (C := R_St) (T := F_St) (N := 12) (j := 2) in_St rfl (by decide) mw_160 d_Wa_openFound_123)) (os_n (os_l (so_iload d_Wa_openFound_126)) (os_l (so_iaload d_Wa_openFound_128))))))) (os_n (os_n (os_n (os_n (os_l (so_iastore d_Wa_openFound_129)) (os_n (os_l (so_aload d_Wa_openFound_130)) (os_l (so_get (C := R_Pl) (T := F_Pl) (N := 12) (j := 2) in_Pl rfl (by decide) mw_99 d_Wa_openFound_132)))) (os_n (os_l (so_iload d_Wa_openFound_135)) (os_n (os_l (so_iaload d_Wa_openFound_137)) (os_l (so_bipush d_Wa_openFound_138 (by decide)))))) (os_n (os_n (os_l (so_iceq d_Wa_openFound_140 (by decide))) (os_n (os_l (so_aload d_Wa_openFound_143)) (os_l (so_get (C := R_Pl) (T := F_Pl) (N := 12) (j := 7) in_Pl rfl (by decide) mw_113 d_Wa_openFound_145)))) (os_n (os_l (so_aload_n d_Wa_openFound_148 rfl)) (os_n (os_l (so_get (C := R_Wa) (T := F_Wa) (N := 18) (j := 14) in_Wa rfl (by decide) mw_232 d_Wa_openFound_149)) (os_l (so_iload d_Wa_openFound_152)))))) (os_n (os_n (os_n (os_l (so_iaload d_Wa_openFound_154)) (os_n (os_l (so_iaload d_Wa_openFound_155)) (os_l (so_iconst d_Wa_openFound_156 (by decide))))) (os_n (os_l (so_imul d_Wa_openFound_157)) (os_n (os_l (so_aload d_Wa_openFound_158)) (os_l (so_get (C := R_Pl) (T := F_Pl) (N := 12) (j := 7) in_Pl rfl (by decide) mw_113 d_Wa_openFound_160))))) (os_n (os_n (os_l (so_aload_n d_Wa_openFound_163 rfl)) (os_n (os_l (so_get (C := R_Wa) (T := F_Wa) (N := 18) (j := 14) in_Wa rfl (by decide) mw_232 d_Wa_openFound_164)) (os_l (so_iload d_Wa_openFound_167)))) (os_n (os_n (os_l (so_iconst d_Wa_openFound_169 (by decide))) (os_l (so_iadd d_Wa_openFound_170))) (os_n (os_l (so_iaload d_Wa_openFound_171)) (os_l (so_iconst d_Wa_openFound_172 (by decide)))))))))) (os_n (os_n (os_n (os_n (os_n (os_n (os_l (so_ixor d_Wa_openFound_173)) (os_n (os_l (so_iaload d_Wa_openFound_174)) (os_l (so_iadd d_Wa_openFound_175)))) (os_n (os_l (so_istore d_Wa_openFound_176 (by decide))) (os_n (os_l (so_aload_n d_Wa_openFound_178 rfl)) (os_l (so_get (C := R_Wa) (T := F_Wa) (N := 18) (j := 0) in_Wa rfl (by decide) mw_217 d_Wa_openFound_179))))) (os_n (os_n (os_l (so_get (C := R_St) (T := F_St) (N := 12) (j := 2) in_St rfl (by decide) mw_160 d_Wa_openFound_182)) (os_n (os_l (so_iload d_Wa_openFound_185)) (os_l (so_aload_n d_Wa_openFound_187 rfl)))) (os_n (os_l (so_get (C := R_Wa) (T := F_Wa) (N := 18) (j := 17) in_Wa rfl (by decide) mw_237 d_Wa_openFound_188)) (os_n (os_l (so_aload d_Wa_openFound_191)) (os_l (so_get (C := R_Pl) (T := F_Pl) (N := 12) (j := 2) in_Pl rfl (by decide) mw_99 d_Wa_openFound_193)))))) (os_n (os_n (os_n (os_l (so_iload d_Wa_openFound_196)) (os_n (os_l (so_iaload d_Wa_openFound_198)) (os_l (so_bipush d_Wa_openFound_199 (by decide))))) (os_n (os_l (so_imul d_Wa_openFound_201)) (os_n (os_l (so_iload d_Wa_openFound_202)) (os_l (so_iadd d_Wa_openFound_204))))) (os_n (os_n (os_l (so_iaload d_Wa_openFound_205)) (os_n (os_l (so_iastore d_Wa_openFound_206)) (os_l (so_aload_n d_Wa_openFound_207 rfl)))) (os_n (os_l (so_get (C := R_Wa) (T := F_Wa) (N := 18) (j := 12) in_Wa rfl (by decide) mw_230 d_Wa_openFound_208)) (os_n (os_l (so_iload d_Wa_openFound_211)) (os_l (so_dup2 d_Wa_openFound_213))))))) (os_n (os_n (os_n (os_n (os_l (so_iaload d_Wa_openFound_214)) (os_n (os_l (so_iconst d_Wa_openFound_215 (by decide))) (os_l (so_iadd d_Wa_openFound_216)))) (os_n (os_l (so_iastore d_Wa_openFound_217)) (os_n (os_l (so_iinc d_Wa_openFound_218 (by decide) (by decide))) (os_l (so_goto d_Wa_openFound_221 (by decide)))))) (os_n (os_n (os_l (so_aload_n d_Wa_openFound_224 rfl)) (os_n (os_l (so_get (C := R_Wa) (T := F_Wa) (N := 18) (j := 2) in_Wa rfl (by decide) mw_220 d_Wa_openFound_225)) (os_l (so_aload_n d_Wa_openFound_228 rfl)))) (os_n (os_l (so_get (C := R_Wa) (T := F_Wa) (N := 18) (j := 1) in_Wa rfl (by decide) mw_218 d_Wa_openFound_229)) (os_n (os_l (so_iload_n d_Wa_openFound_232 rfl)) (os_l (so_iastore d_Wa_openFound_233)))))) (os_n (os_n (os_n (os_l (so_aload_n d_Wa_openFound_234 rfl)) (os_n (os_l (so_get (C := R_Wa) (T := F_Wa) (N := 18) (j := 3) in_Wa rfl (by decide) mw_221 d_Wa_openFound_235)) (os_l (so_aload_n d_Wa_openFound_238 rfl)))) (os_n (os_l (so_get (C := R_Wa) (T := F_Wa) (N := 18) (j := 1) in_Wa rfl (by decide) mw_218 d_Wa_openFound_239)) (os_n (os_l (so_iload_n d_Wa_openFound_242 rfl)) (os_l (so_iastore d_Wa_openFound_243))))) (os_n (os_n (os_l (so_aload_n d_Wa_openFound_244 rfl)) (os_n (os_l (so_get (C := R_Wa) (T := F_Wa) (N := 18) (j := 4) in_Wa rfl (by decide) mw_222 d_Wa_openFound_245)) (os_l (so_aload_n d_Wa_openFound_248 rfl)))) (os_n (os_l (so_get (C := R_Wa) (T := F_Wa) (N := 18) (j := 1) in_Wa rfl (by decide) mw_218 d_Wa_openFound_249)) (os_n (os_l (so_iload_n d_Wa_openFound_252 rfl)) (os_l (so_iastore d_Wa_openFound_253)))))))) (os_n (os_n (os_n (os_n (os_n (os_l (so_aload_n d_Wa_openFound_254 rfl)) (os_n (os_l (so_get (C := R_Wa) (T := F_Wa) (N := 18) (j := 5) in_Wa rfl (by decide) mw_223 d_Wa_openFound_255)) (os_l (so_aload_n d_Wa_openFound_258 rfl)))) (os_n (os_l (so_get (C := R_Wa) (T := F_Wa) (N := 18) (j := 1) in_Wa rfl (by decide) mw_218 d_Wa_openFound_259)) (os_n (os_l (so_aload_n d_Wa_openFound_262 rfl)) (os_l (so_get (C := R_Wa) (T := F_Wa) (N := 18) (j := 0) in_Wa rfl (by decide) mw_217 d_Wa_openFound_263))))) (os_n (os_n (os_l (so_get (C := R_St) (T := F_St) (N := 12) (j := 3) in_St rfl (by decide) mw_166 d_Wa_openFound_266)) (os_n (os_l (so_iload_n d_Wa_openFound_269 rfl)) (os_l (so_iaload d_Wa_openFound_270)))) (os_n (os_l (so_iastore d_Wa_openFound_271)) (os_n (os_l (so_aload_n d_Wa_openFound_272 rfl)) (os_l (so_get (C := R_Wa) (T := F_Wa) (N := 18) (j := 6) in_Wa rfl (by decide) mw_224 d_Wa_openFound_273)))))) (os_n (os_n (os_n (os_l (so_aload_n d_Wa_openFound_276 rfl)) (os_n (os_l (so_get (C := R_Wa) (T := F_Wa) (N := 18) (j := 1) in_Wa rfl (by decide) mw_218 d_Wa_openFound_277)) (os_l (so_aload_n d_Wa_openFound_280 rfl)))) (os_n (os_l (so_get (C := R_Wa) (T := F_Wa) (N := 18) (j := 15) in_Wa rfl (by decide) mw_235 d_Wa_openFound_281)) (os_n (os_l (so_iastore d_Wa_openFound_284)) (os_l (so_aload_n d_Wa_openFound_285 rfl))))) (os_n (os_n (os_l (so_get (C := R_Wa) (T := F_Wa) (N := 18) (j := 7) in_Wa rfl (by decide) mw_225 d_Wa_openFound_286)) (os_n (os_l (so_aload_n d_Wa_openFound_289 rfl)) (os_l (so_get (C := R_Wa) (T := F_Wa) (N := 18) (j := 1) in_Wa rfl (by decide) mw_218 d_Wa_openFound_290)))) (os_n (os_l (so_aload_n d_Wa_openFound_293 rfl)) (os_n (os_l (so_get (C := R_Wa) (T := F_Wa) (N := 18) (j := 14) in_Wa rfl (by decide) mw_232 d_Wa_openFound_294)) (os_l (so_iconst d_Wa_openFound_297 (by decide)))))))) (os_n (os_n (os_n (os_n (os_l (so_iaload d_Wa_openFound_298)) (os_n (os_l (so_iconst d_Wa_openFound_299 (by decide))) (os_l (so_ishr d_Wa_openFound_300)))) (os_n (os_l (so_iastore d_Wa_openFound_301)) (os_n (os_l (so_aload_n d_Wa_openFound_302 rfl)) (os_l (so_get (C := R_Wa) (T := F_Wa) (N := 18) (j := 8) in_Wa rfl (by decide) mw_226 d_Wa_openFound_303))))) (os_n (os_n (os_l (so_aload_n d_Wa_openFound_306 rfl)) (os_n (os_l (so_get (C := R_Wa) (T := F_Wa) (N := 18) (j := 1) in_Wa rfl (by decide) mw_218 d_Wa_openFound_307)) (os_l (so_aload_n d_Wa_openFound_310 rfl)))) (os_n (os_l (so_get (C := R_Wa) (T := F_Wa) (N := 18) (j := 14) in_Wa rfl (by decide) mw_232 d_Wa_openFound_311)) (os_n (os_l (so_aload_n d_Wa_openFound_314 rfl)) (os_l (so_get (C := R_Wa) (T := F_Wa) (N := 18) (j := 15) in_Wa rfl (by decide) mw_235 d_Wa_openFound_315)))))) (os_n (os_n (os_n (os_l (so_iconst d_Wa_openFound_318 (by decide))) (os_n (os_l (so_isub d_Wa_openFound_319)) (os_l (so_iaload d_Wa_openFound_320)))) (os_n (os_l (so_iconst d_Wa_openFound_321 (by decide))) (os_n (os_l (so_ishr d_Wa_openFound_322)) (os_l (so_iastore d_Wa_openFound_323))))) (os_n (os_n (os_l (so_aload_n d_Wa_openFound_324 rfl)) (os_n (os_l (so_dup d_Wa_openFound_325)) (os_l (so_get (C := R_Wa) (T := F_Wa) (N := 18) (j := 1) in_Wa rfl (by decide) mw_218 d_Wa_openFound_326)))) (os_n (os_n (os_l (so_iconst d_Wa_openFound_329 (by decide))) (os_l (so_iadd d_Wa_openFound_330))) (os_n (os_l (so_putI (C := R_Wa) (T := F_Wa) (N := 18) (j := 1) in_Wa t_Wa_ok n_Wa rfl (by decide) mw_218 rfl (by decide +kernel) d_Wa_openFound_331)) (os_l (so_return rfl d_Wa_openFound_334))))))))))
abbrev t_Wa_undoOpening_11 : List UInt8 := 177 :: []
abbrev t_Wa_undoOpening_8 : List UInt8 := 182 :: 0 :: 125 :: t_Wa_undoOpening_11
abbrev t_Wa_undoOpening_7 : List UInt8 := 4 :: t_Wa_undoOpening_8
abbrev t_Wa_undoOpening_6 : List UInt8 := 100 :: t_Wa_undoOpening_7
abbrev t_Wa_undoOpening_5 : List UInt8 := 4 :: t_Wa_undoOpening_6
abbrev t_Wa_undoOpening_2 : List UInt8 := 180 :: 0 :: 65 :: t_Wa_undoOpening_5
abbrev t_Wa_undoOpening_1 : List UInt8 := 42 :: t_Wa_undoOpening_2
abbrev t_Wa_undoOpening_0 : List UInt8 := 42 :: t_Wa_undoOpening_1
theorem a_Wa_undoOpening_0 : dk_at b_Wa_undoOpening 0 t_Wa_undoOpening_0 := dk_start (by decide +kernel)
theorem a_Wa_undoOpening_1 : dk_at b_Wa_undoOpening 1 t_Wa_undoOpening_1 := dk_go 1 a_Wa_undoOpening_0 rfl
theorem a_Wa_undoOpening_2 : dk_at b_Wa_undoOpening 2 t_Wa_undoOpening_2 := dk_go 1 a_Wa_undoOpening_1 rfl
theorem a_Wa_undoOpening_5 : dk_at b_Wa_undoOpening 5 t_Wa_undoOpening_5 := dk_go 3 a_Wa_undoOpening_2 rfl
theorem a_Wa_undoOpening_6 : dk_at b_Wa_undoOpening 6 t_Wa_undoOpening_6 := dk_go 1 a_Wa_undoOpening_5 rfl
theorem a_Wa_undoOpening_7 : dk_at b_Wa_undoOpening 7 t_Wa_undoOpening_7 := dk_go 1 a_Wa_undoOpening_6 rfl
theorem a_Wa_undoOpening_8 : dk_at b_Wa_undoOpening 8 t_Wa_undoOpening_8 := dk_go 1 a_Wa_undoOpening_7 rfl
theorem a_Wa_undoOpening_11 : dk_at b_Wa_undoOpening 11 t_Wa_undoOpening_11 := dk_go 3 a_Wa_undoOpening_8 rfl
theorem d_Wa_undoOpening_0 : decode b_Wa_undoOpening 0 = .ok (.aload_n 0, 1) := dk_0 a_Wa_undoOpening_0 (dko_42 _)
theorem d_Wa_undoOpening_1 : decode b_Wa_undoOpening 1 = .ok (.aload_n 0, 1) := dk_0 a_Wa_undoOpening_1 (dko_42 _)
theorem d_Wa_undoOpening_2 : decode b_Wa_undoOpening 2 = .ok (.getfield 65, 3) := dk_U2 a_Wa_undoOpening_2 (dko_180 _) rfl
theorem d_Wa_undoOpening_5 : decode b_Wa_undoOpening 5 = .ok (.iconst 1, 1) := dk_0 a_Wa_undoOpening_5 (dko_4 _)
theorem d_Wa_undoOpening_6 : decode b_Wa_undoOpening 6 = .ok (.isub, 1) := dk_0 a_Wa_undoOpening_6 (dko_100 _)
theorem d_Wa_undoOpening_7 : decode b_Wa_undoOpening 7 = .ok (.iconst 1, 1) := dk_0 a_Wa_undoOpening_7 (dko_4 _)
theorem d_Wa_undoOpening_8 : decode b_Wa_undoOpening 8 = .ok (.invokevirtual 125, 3) := dk_U2 a_Wa_undoOpening_8 (dko_182 _) rfl
theorem d_Wa_undoOpening_11 : decode b_Wa_undoOpening 11 = .ok (.return_, 1) := dk_0 a_Wa_undoOpening_11 (dko_177 _)
set_option maxHeartbeats 4000000 in
set_option maxRecDepth 100000 in
theorem ok_Wa_undoOpening (pc : Nat) : OpS mt mi_Wa_undoOpening pc (cs_Wa_undoOpening pc) := (os_n (os_n (os_n (os_l (so_aload_n d_Wa_undoOpening_0 rfl)) (os_l (so_aload_n d_Wa_undoOpening_1 rfl))) (os_n (os_l (so_get (C := R_Wa) (T := F_Wa) (N := 18) (j := 1) in_Wa rfl (by decide) mw_218 d_Wa_undoOpening_2)) (os_l (so_iconst d_Wa_undoOpening_5 (by decide))))) (os_n (os_n (os_l (so_isub d_Wa_undoOpening_6)) (os_l (so_iconst d_Wa_undoOpening_7 (by decide)))) (os_n (os_l (so_callV (iv := mi_Wa_remove) rfl rfl rfl mw_1067 mw_1069 sl_46 mw_7 mw_1070 ⟨by decide +kernel, by decide +kernel, by decide +kernel⟩ (by decide) d_Wa_undoOpening_8)) (os_l (so_return rfl d_Wa_undoOpening_11)))))
abbrev t_Wa_closeOne_6 : List UInt8 := 177 :: []
abbrev t_Wa_closeOne_3 : List UInt8 := 182 :: 0 :: 125 :: t_Wa_closeOne_6
abbrev t_Wa_closeOne_2 : List UInt8 := 3 :: t_Wa_closeOne_3
abbrev t_Wa_closeOne_1 : List UInt8 := 27 :: t_Wa_closeOne_2
abbrev t_Wa_closeOne_0 : List UInt8 := 42 :: t_Wa_closeOne_1
theorem a_Wa_closeOne_0 : dk_at b_Wa_closeOne 0 t_Wa_closeOne_0 := dk_start (by decide +kernel)
theorem a_Wa_closeOne_1 : dk_at b_Wa_closeOne 1 t_Wa_closeOne_1 := dk_go 1 a_Wa_closeOne_0 rfl
theorem a_Wa_closeOne_2 : dk_at b_Wa_closeOne 2 t_Wa_closeOne_2 := dk_go 1 a_Wa_closeOne_1 rfl
theorem a_Wa_closeOne_3 : dk_at b_Wa_closeOne 3 t_Wa_closeOne_3 := dk_go 1 a_Wa_closeOne_2 rfl
theorem a_Wa_closeOne_6 : dk_at b_Wa_closeOne 6 t_Wa_closeOne_6 := dk_go 3 a_Wa_closeOne_3 rfl
theorem d_Wa_closeOne_0 : decode b_Wa_closeOne 0 = .ok (.aload_n 0, 1) := dk_0 a_Wa_closeOne_0 (dko_42 _)
theorem d_Wa_closeOne_1 : decode b_Wa_closeOne 1 = .ok (.iload_n 1, 1) := dk_0 a_Wa_closeOne_1 (dko_27 _)
theorem d_Wa_closeOne_2 : decode b_Wa_closeOne 2 = .ok (.iconst 0, 1) := dk_0 a_Wa_closeOne_2 (dko_3 _)
theorem d_Wa_closeOne_3 : decode b_Wa_closeOne 3 = .ok (.invokevirtual 125, 3) := dk_U2 a_Wa_closeOne_3 (dko_182 _) rfl
theorem d_Wa_closeOne_6 : decode b_Wa_closeOne 6 = .ok (.return_, 1) := dk_0 a_Wa_closeOne_6 (dko_177 _)
set_option maxHeartbeats 4000000 in
set_option maxRecDepth 100000 in
theorem ok_Wa_closeOne (pc : Nat) : OpS mt mi_Wa_closeOne pc (cs_Wa_closeOne pc) := (os_n (os_n (os_l (so_aload_n d_Wa_closeOne_0 rfl)) (os_l (so_iload_n d_Wa_closeOne_1 rfl))) (os_n (os_l (so_iconst d_Wa_closeOne_2 (by decide))) (os_n (os_l (so_callV (iv := mi_Wa_remove) rfl rfl rfl mw_1067 mw_1069 sl_46 mw_7 mw_1070 ⟨by decide +kernel, by decide +kernel, by decide +kernel⟩ (by decide) d_Wa_closeOne_3)) (os_l (so_return rfl d_Wa_closeOne_6)))))
abbrev t_Wa_closeAll_23 : List UInt8 := 177 :: []
abbrev t_Wa_closeAll_20 : List UInt8 := 167 :: 255 :: 243 :: t_Wa_closeAll_23
abbrev t_Wa_closeAll_17 : List UInt8 := 132 :: 1 :: 255 :: t_Wa_closeAll_20
abbrev t_Wa_closeAll_14 : List UInt8 := 182 :: 0 :: 125 :: t_Wa_closeAll_17
abbrev t_Wa_closeAll_13 : List UInt8 := 3 :: t_Wa_closeAll_14
abbrev t_Wa_closeAll_12 : List UInt8 := 27 :: t_Wa_closeAll_13
abbrev t_Wa_closeAll_11 : List UInt8 := 42 :: t_Wa_closeAll_12
abbrev t_Wa_closeAll_8 : List UInt8 := 155 :: 0 :: 15 :: t_Wa_closeAll_11
abbrev t_Wa_closeAll_7 : List UInt8 := 27 :: t_Wa_closeAll_8
abbrev t_Wa_closeAll_6 : List UInt8 := 60 :: t_Wa_closeAll_7
abbrev t_Wa_closeAll_5 : List UInt8 := 100 :: t_Wa_closeAll_6
abbrev t_Wa_closeAll_4 : List UInt8 := 4 :: t_Wa_closeAll_5
abbrev t_Wa_closeAll_1 : List UInt8 := 180 :: 0 :: 65 :: t_Wa_closeAll_4
abbrev t_Wa_closeAll_0 : List UInt8 := 42 :: t_Wa_closeAll_1
theorem a_Wa_closeAll_0 : dk_at b_Wa_closeAll 0 t_Wa_closeAll_0 := dk_start (by decide +kernel)
theorem a_Wa_closeAll_1 : dk_at b_Wa_closeAll 1 t_Wa_closeAll_1 := dk_go 1 a_Wa_closeAll_0 rfl
theorem a_Wa_closeAll_4 : dk_at b_Wa_closeAll 4 t_Wa_closeAll_4 := dk_go 3 a_Wa_closeAll_1 rfl
theorem a_Wa_closeAll_5 : dk_at b_Wa_closeAll 5 t_Wa_closeAll_5 := dk_go 1 a_Wa_closeAll_4 rfl
theorem a_Wa_closeAll_6 : dk_at b_Wa_closeAll 6 t_Wa_closeAll_6 := dk_go 1 a_Wa_closeAll_5 rfl
theorem a_Wa_closeAll_7 : dk_at b_Wa_closeAll 7 t_Wa_closeAll_7 := dk_go 1 a_Wa_closeAll_6 rfl
theorem a_Wa_closeAll_8 : dk_at b_Wa_closeAll 8 t_Wa_closeAll_8 := dk_go 1 a_Wa_closeAll_7 rfl
theorem a_Wa_closeAll_11 : dk_at b_Wa_closeAll 11 t_Wa_closeAll_11 := dk_go 3 a_Wa_closeAll_8 rfl
theorem a_Wa_closeAll_12 : dk_at b_Wa_closeAll 12 t_Wa_closeAll_12 := dk_go 1 a_Wa_closeAll_11 rfl
theorem a_Wa_closeAll_13 : dk_at b_Wa_closeAll 13 t_Wa_closeAll_13 := dk_go 1 a_Wa_closeAll_12 rfl
theorem a_Wa_closeAll_14 : dk_at b_Wa_closeAll 14 t_Wa_closeAll_14 := dk_go 1 a_Wa_closeAll_13 rfl
theorem a_Wa_closeAll_17 : dk_at b_Wa_closeAll 17 t_Wa_closeAll_17 := dk_go 3 a_Wa_closeAll_14 rfl
theorem a_Wa_closeAll_20 : dk_at b_Wa_closeAll 20 t_Wa_closeAll_20 := dk_go 3 a_Wa_closeAll_17 rfl
theorem a_Wa_closeAll_23 : dk_at b_Wa_closeAll 23 t_Wa_closeAll_23 := dk_go 3 a_Wa_closeAll_20 rfl
theorem d_Wa_closeAll_0 : decode b_Wa_closeAll 0 = .ok (.aload_n 0, 1) := dk_0 a_Wa_closeAll_0 (dko_42 _)
theorem d_Wa_closeAll_1 : decode b_Wa_closeAll 1 = .ok (.getfield 65, 3) := dk_U2 a_Wa_closeAll_1 (dko_180 _) rfl
theorem d_Wa_closeAll_4 : decode b_Wa_closeAll 4 = .ok (.iconst 1, 1) := dk_0 a_Wa_closeAll_4 (dko_4 _)
theorem d_Wa_closeAll_5 : decode b_Wa_closeAll 5 = .ok (.isub, 1) := dk_0 a_Wa_closeAll_5 (dko_100 _)
theorem d_Wa_closeAll_6 : decode b_Wa_closeAll 6 = .ok (.istore_n 1, 1) := dk_0 a_Wa_closeAll_6 (dko_60 _)
theorem d_Wa_closeAll_7 : decode b_Wa_closeAll 7 = .ok (.iload_n 1, 1) := dk_0 a_Wa_closeAll_7 (dko_27 _)
theorem d_Wa_closeAll_8 : decode b_Wa_closeAll 8 = .ok (.ifCond .lt 15, 3) := dk_S2 a_Wa_closeAll_8 (dko_155 _) (by decide +kernel)
theorem d_Wa_closeAll_11 : decode b_Wa_closeAll 11 = .ok (.aload_n 0, 1) := dk_0 a_Wa_closeAll_11 (dko_42 _)
theorem d_Wa_closeAll_12 : decode b_Wa_closeAll 12 = .ok (.iload_n 1, 1) := dk_0 a_Wa_closeAll_12 (dko_27 _)
theorem d_Wa_closeAll_13 : decode b_Wa_closeAll 13 = .ok (.iconst 0, 1) := dk_0 a_Wa_closeAll_13 (dko_3 _)
theorem d_Wa_closeAll_14 : decode b_Wa_closeAll 14 = .ok (.invokevirtual 125, 3) := dk_U2 a_Wa_closeAll_14 (dko_182 _) rfl
theorem d_Wa_closeAll_17 : decode b_Wa_closeAll 17 = .ok (.iinc 1 (-1), 3) := dk_US a_Wa_closeAll_17 (dko_132 _) (by decide +kernel)
theorem d_Wa_closeAll_20 : decode b_Wa_closeAll 20 = .ok (.goto (-13), 3) := dk_S2 a_Wa_closeAll_20 (dko_167 _) (by decide +kernel)
theorem d_Wa_closeAll_23 : decode b_Wa_closeAll 23 = .ok (.return_, 1) := dk_0 a_Wa_closeAll_23 (dko_177 _)
set_option maxHeartbeats 4000000 in
set_option maxRecDepth 100000 in
theorem ok_Wa_closeAll (pc : Nat) : OpS mt mi_Wa_closeAll pc (cs_Wa_closeAll pc) := (os_n (os_n (os_n (os_l (so_aload_n d_Wa_closeAll_0 rfl)) (os_n (os_l (so_get (C := R_Wa) (T := F_Wa) (N := 18) (j := 1) in_Wa rfl (by decide) mw_218 d_Wa_closeAll_1)) (os_l (so_iconst d_Wa_closeAll_4 (by decide))))) (os_n (os_n (os_l (so_isub d_Wa_closeAll_5)) (os_l (so_istore_n d_Wa_closeAll_6 rfl (by decide)))) (os_n (os_l (so_iload_n d_Wa_closeAll_7 rfl)) (os_l (so_iflt d_Wa_closeAll_8 (by decide)))))) (os_n (os_n (os_l (so_aload_n d_Wa_closeAll_11 rfl)) (os_n (os_l (so_iload_n d_Wa_closeAll_12 rfl)) (os_l (so_iconst d_Wa_closeAll_13 (by decide))))) (os_n (os_n (os_l (so_callV (iv := mi_Wa_remove) rfl rfl rfl mw_1067 mw_1069 sl_46 mw_7 mw_1070 ⟨by decide +kernel, by decide +kernel, by decide +kernel⟩ (by decide) d_Wa_closeAll_14)) (os_l (so_iinc d_Wa_closeAll_17 (by decide) (by decide)))) (os_n (os_l (so_goto d_Wa_closeAll_20 (by decide))) (os_l (so_return rfl d_Wa_closeAll_23))))))
abbrev t_Wa_remove_295 : List UInt8 := 177 :: []
abbrev t_Wa_remove_292 : List UInt8 := 167 :: 255 :: 132 :: t_Wa_remove_295
abbrev t_Wa_remove_289 : List UInt8 := 132 :: 5 :: 1 :: t_Wa_remove_292
abbrev t_Wa_remove_288 : List UInt8 := 79 :: t_Wa_remove_289
abbrev t_Wa_remove_287 : List UInt8 := 46 :: t_Wa_remove_288
abbrev t_Wa_remove_286 : List UInt8 := 96 :: t_Wa_remove_287
abbrev t_Wa_remove_285 : List UInt8 := 4 :: t_Wa_remove_286
abbrev t_Wa_remove_283 : List UInt8 := 21 :: 5 :: t_Wa_remove_285
abbrev t_Wa_remove_280 : List UInt8 := 180 :: 0 :: 30 :: t_Wa_remove_283
abbrev t_Wa_remove_279 : List UInt8 := 42 :: t_Wa_remove_280
abbrev t_Wa_remove_277 : List UInt8 := 21 :: 5 :: t_Wa_remove_279
abbrev t_Wa_remove_274 : List UInt8 := 180 :: 0 :: 30 :: t_Wa_remove_277
abbrev t_Wa_remove_273 : List UInt8 := 42 :: t_Wa_remove_274
abbrev t_Wa_remove_272 : List UInt8 := 79 :: t_Wa_remove_273
abbrev t_Wa_remove_271 : List UInt8 := 46 :: t_Wa_remove_272
abbrev t_Wa_remove_270 : List UInt8 := 96 :: t_Wa_remove_271
abbrev t_Wa_remove_269 : List UInt8 := 4 :: t_Wa_remove_270
abbrev t_Wa_remove_267 : List UInt8 := 21 :: 5 :: t_Wa_remove_269
abbrev t_Wa_remove_264 : List UInt8 := 180 :: 0 :: 27 :: t_Wa_remove_267
abbrev t_Wa_remove_263 : List UInt8 := 42 :: t_Wa_remove_264
abbrev t_Wa_remove_261 : List UInt8 := 21 :: 5 :: t_Wa_remove_263
abbrev t_Wa_remove_258 : List UInt8 := 180 :: 0 :: 27 :: t_Wa_remove_261
abbrev t_Wa_remove_257 : List UInt8 := 42 :: t_Wa_remove_258
abbrev t_Wa_remove_256 : List UInt8 := 79 :: t_Wa_remove_257
abbrev t_Wa_remove_255 : List UInt8 := 46 :: t_Wa_remove_256
abbrev t_Wa_remove_254 : List UInt8 := 96 :: t_Wa_remove_255
abbrev t_Wa_remove_253 : List UInt8 := 4 :: t_Wa_remove_254
abbrev t_Wa_remove_251 : List UInt8 := 21 :: 5 :: t_Wa_remove_253
abbrev t_Wa_remove_248 : List UInt8 := 180 :: 0 :: 24 :: t_Wa_remove_251
abbrev t_Wa_remove_247 : List UInt8 := 42 :: t_Wa_remove_248
abbrev t_Wa_remove_245 : List UInt8 := 21 :: 5 :: t_Wa_remove_247
abbrev t_Wa_remove_242 : List UInt8 := 180 :: 0 :: 24 :: t_Wa_remove_245
abbrev t_Wa_remove_241 : List UInt8 := 42 :: t_Wa_remove_242
abbrev t_Wa_remove_240 : List UInt8 := 79 :: t_Wa_remove_241
abbrev t_Wa_remove_239 : List UInt8 := 46 :: t_Wa_remove_240
abbrev t_Wa_remove_238 : List UInt8 := 96 :: t_Wa_remove_239
abbrev t_Wa_remove_237 : List UInt8 := 4 :: t_Wa_remove_238
abbrev t_Wa_remove_235 : List UInt8 := 21 :: 5 :: t_Wa_remove_237
abbrev t_Wa_remove_232 : List UInt8 := 180 :: 0 :: 21 :: t_Wa_remove_235
abbrev t_Wa_remove_231 : List UInt8 := 42 :: t_Wa_remove_232
abbrev t_Wa_remove_229 : List UInt8 := 21 :: 5 :: t_Wa_remove_231
abbrev t_Wa_remove_226 : List UInt8 := 180 :: 0 :: 21 :: t_Wa_remove_229
abbrev t_Wa_remove_225 : List UInt8 := 42 :: t_Wa_remove_226
abbrev t_Wa_remove_224 : List UInt8 := 79 :: t_Wa_remove_225
abbrev t_Wa_remove_223 : List UInt8 := 46 :: t_Wa_remove_224
abbrev t_Wa_remove_222 : List UInt8 := 96 :: t_Wa_remove_223
abbrev t_Wa_remove_221 : List UInt8 := 4 :: t_Wa_remove_222
abbrev t_Wa_remove_219 : List UInt8 := 21 :: 5 :: t_Wa_remove_221
abbrev t_Wa_remove_216 : List UInt8 := 180 :: 0 :: 18 :: t_Wa_remove_219
abbrev t_Wa_remove_215 : List UInt8 := 42 :: t_Wa_remove_216
abbrev t_Wa_remove_213 : List UInt8 := 21 :: 5 :: t_Wa_remove_215
abbrev t_Wa_remove_210 : List UInt8 := 180 :: 0 :: 18 :: t_Wa_remove_213
abbrev t_Wa_remove_209 : List UInt8 := 42 :: t_Wa_remove_210
abbrev t_Wa_remove_208 : List UInt8 := 79 :: t_Wa_remove_209
abbrev t_Wa_remove_207 : List UInt8 := 46 :: t_Wa_remove_208
abbrev t_Wa_remove_206 : List UInt8 := 96 :: t_Wa_remove_207
abbrev t_Wa_remove_205 : List UInt8 := 4 :: t_Wa_remove_206
abbrev t_Wa_remove_203 : List UInt8 := 21 :: 5 :: t_Wa_remove_205
abbrev t_Wa_remove_200 : List UInt8 := 180 :: 0 :: 15 :: t_Wa_remove_203
abbrev t_Wa_remove_199 : List UInt8 := 42 :: t_Wa_remove_200
abbrev t_Wa_remove_197 : List UInt8 := 21 :: 5 :: t_Wa_remove_199
abbrev t_Wa_remove_194 : List UInt8 := 180 :: 0 :: 15 :: t_Wa_remove_197
abbrev t_Wa_remove_193 : List UInt8 := 42 :: t_Wa_remove_194
abbrev t_Wa_remove_192 : List UInt8 := 79 :: t_Wa_remove_193
abbrev t_Wa_remove_191 : List UInt8 := 46 :: t_Wa_remove_192
abbrev t_Wa_remove_190 : List UInt8 := 96 :: t_Wa_remove_191
abbrev t_Wa_remove_189 : List UInt8 := 4 :: t_Wa_remove_190
abbrev t_Wa_remove_187 : List UInt8 := 21 :: 5 :: t_Wa_remove_189
abbrev t_Wa_remove_184 : List UInt8 := 180 :: 0 :: 9 :: t_Wa_remove_187
abbrev t_Wa_remove_183 : List UInt8 := 42 :: t_Wa_remove_184
abbrev t_Wa_remove_181 : List UInt8 := 21 :: 5 :: t_Wa_remove_183
abbrev t_Wa_remove_178 : List UInt8 := 180 :: 0 :: 9 :: t_Wa_remove_181
abbrev t_Wa_remove_177 : List UInt8 := 42 :: t_Wa_remove_178
abbrev t_Wa_remove_174 : List UInt8 := 162 :: 0 :: 121 :: t_Wa_remove_177
abbrev t_Wa_remove_171 : List UInt8 := 180 :: 0 :: 65 :: t_Wa_remove_174
abbrev t_Wa_remove_170 : List UInt8 := 42 :: t_Wa_remove_171
abbrev t_Wa_remove_168 : List UInt8 := 21 :: 5 :: t_Wa_remove_170
abbrev t_Wa_remove_166 : List UInt8 := 54 :: 5 :: t_Wa_remove_168
abbrev t_Wa_remove_165 : List UInt8 := 27 :: t_Wa_remove_166
abbrev t_Wa_remove_162 : List UInt8 := 181 :: 0 :: 65 :: t_Wa_remove_165
abbrev t_Wa_remove_161 : List UInt8 := 100 :: t_Wa_remove_162
abbrev t_Wa_remove_160 : List UInt8 := 4 :: t_Wa_remove_161
abbrev t_Wa_remove_157 : List UInt8 := 180 :: 0 :: 65 :: t_Wa_remove_160
abbrev t_Wa_remove_156 : List UInt8 := 89 :: t_Wa_remove_157
abbrev t_Wa_remove_155 : List UInt8 := 42 :: t_Wa_remove_156
abbrev t_Wa_remove_152 : List UInt8 := 167 :: 255 :: 123 :: t_Wa_remove_155
abbrev t_Wa_remove_149 : List UInt8 := 132 :: 5 :: 1 :: t_Wa_remove_152
abbrev t_Wa_remove_147 : List UInt8 := 54 :: 4 :: t_Wa_remove_149
abbrev t_Wa_remove_146 : List UInt8 := 46 :: t_Wa_remove_147
abbrev t_Wa_remove_144 : List UInt8 := 21 :: 4 :: t_Wa_remove_146
abbrev t_Wa_remove_141 : List UInt8 := 180 :: 0 :: 36 :: t_Wa_remove_144
abbrev t_Wa_remove_140 : List UInt8 := 42 :: t_Wa_remove_141
abbrev t_Wa_remove_139 : List UInt8 := 79 :: t_Wa_remove_140
abbrev t_Wa_remove_138 : List UInt8 := 3 :: t_Wa_remove_139
abbrev t_Wa_remove_135 : List UInt8 := 167 :: 0 :: 4 :: t_Wa_remove_138
abbrev t_Wa_remove_134 : List UInt8 := 5 :: t_Wa_remove_135
abbrev t_Wa_remove_131 : List UInt8 := 160 :: 0 :: 7 :: t_Wa_remove_134
abbrev t_Wa_remove_130 : List UInt8 := 4 :: t_Wa_remove_131
abbrev t_Wa_remove_129 : List UInt8 := 46 :: t_Wa_remove_130
abbrev t_Wa_remove_127 : List UInt8 := 21 :: 6 :: t_Wa_remove_129
abbrev t_Wa_remove_124 : List UInt8 := 180 :: 0 :: 113 :: t_Wa_remove_127
abbrev t_Wa_remove_123 : List UInt8 := 45 :: t_Wa_remove_124
abbrev t_Wa_remove_120 : List UInt8 := 167 :: 0 :: 19 :: t_Wa_remove_123
abbrev t_Wa_remove_119 : List UInt8 := 46 :: t_Wa_remove_120
abbrev t_Wa_remove_117 : List UInt8 := 21 :: 6 :: t_Wa_remove_119
abbrev t_Wa_remove_114 : List UInt8 := 180 :: 0 :: 52 :: t_Wa_remove_117
abbrev t_Wa_remove_113 : List UInt8 := 42 :: t_Wa_remove_114
abbrev t_Wa_remove_110 : List UInt8 := 153 :: 0 :: 13 :: t_Wa_remove_113
abbrev t_Wa_remove_109 : List UInt8 := 28 :: t_Wa_remove_110
abbrev t_Wa_remove_107 : List UInt8 := 21 :: 6 :: t_Wa_remove_109
abbrev t_Wa_remove_104 : List UInt8 := 180 :: 0 :: 119 :: t_Wa_remove_107
abbrev t_Wa_remove_101 : List UInt8 := 180 :: 0 :: 58 :: t_Wa_remove_104
abbrev t_Wa_remove_100 : List UInt8 := 42 :: t_Wa_remove_101
abbrev t_Wa_remove_97 : List UInt8 := 159 :: 0 :: 43 :: t_Wa_remove_100
abbrev t_Wa_remove_95 : List UInt8 := 16 :: 8 :: t_Wa_remove_97
abbrev t_Wa_remove_94 : List UInt8 := 46 :: t_Wa_remove_95
abbrev t_Wa_remove_92 : List UInt8 := 21 :: 6 :: t_Wa_remove_94
abbrev t_Wa_remove_89 : List UInt8 := 180 :: 0 :: 113 :: t_Wa_remove_92
abbrev t_Wa_remove_88 : List UInt8 := 45 :: t_Wa_remove_89
abbrev t_Wa_remove_85 : List UInt8 := 154 :: 0 :: 55 :: t_Wa_remove_88
abbrev t_Wa_remove_84 : List UInt8 := 46 :: t_Wa_remove_85
abbrev t_Wa_remove_82 : List UInt8 := 21 :: 6 :: t_Wa_remove_84
abbrev t_Wa_remove_79 : List UInt8 := 180 :: 0 :: 43 :: t_Wa_remove_82
abbrev t_Wa_remove_78 : List UInt8 := 42 :: t_Wa_remove_79
abbrev t_Wa_remove_77 : List UInt8 := 79 :: t_Wa_remove_78
abbrev t_Wa_remove_76 : List UInt8 := 100 :: t_Wa_remove_77
abbrev t_Wa_remove_75 : List UInt8 := 4 :: t_Wa_remove_76
abbrev t_Wa_remove_74 : List UInt8 := 46 :: t_Wa_remove_75
abbrev t_Wa_remove_73 : List UInt8 := 92 :: t_Wa_remove_74
abbrev t_Wa_remove_71 : List UInt8 := 21 :: 6 :: t_Wa_remove_73
abbrev t_Wa_remove_68 : List UInt8 := 180 :: 0 :: 43 :: t_Wa_remove_71
abbrev t_Wa_remove_67 : List UInt8 := 42 :: t_Wa_remove_68
abbrev t_Wa_remove_65 : List UInt8 := 54 :: 6 :: t_Wa_remove_67
abbrev t_Wa_remove_64 : List UInt8 := 46 :: t_Wa_remove_65
abbrev t_Wa_remove_63 : List UInt8 := 46 :: t_Wa_remove_64
abbrev t_Wa_remove_61 : List UInt8 := 21 :: 4 :: t_Wa_remove_63
abbrev t_Wa_remove_58 : List UInt8 := 180 :: 0 :: 33 :: t_Wa_remove_61
abbrev t_Wa_remove_57 : List UInt8 := 42 :: t_Wa_remove_58
abbrev t_Wa_remove_54 : List UInt8 := 180 :: 0 :: 93 :: t_Wa_remove_57
abbrev t_Wa_remove_53 : List UInt8 := 45 :: t_Wa_remove_54
abbrev t_Wa_remove_50 : List UInt8 := 155 :: 0 :: 90 :: t_Wa_remove_53
abbrev t_Wa_remove_49 : List UInt8 := 46 :: t_Wa_remove_50
abbrev t_Wa_remove_47 : List UInt8 := 21 :: 4 :: t_Wa_remove_49
abbrev t_Wa_remove_44 : List UInt8 := 180 :: 0 :: 36 :: t_Wa_remove_47
abbrev t_Wa_remove_43 : List UInt8 := 42 :: t_Wa_remove_44
abbrev t_Wa_remove_42 : List UInt8 := 84 :: t_Wa_remove_43
abbrev t_Wa_remove_41 : List UInt8 := 3 :: t_Wa_remove_42
abbrev t_Wa_remove_39 : List UInt8 := 21 :: 4 :: t_Wa_remove_41
abbrev t_Wa_remove_36 : List UInt8 := 180 :: 0 :: 39 :: t_Wa_remove_39
abbrev t_Wa_remove_35 : List UInt8 := 42 :: t_Wa_remove_36
abbrev t_Wa_remove_32 : List UInt8 := 155 :: 0 :: 123 :: t_Wa_remove_35
abbrev t_Wa_remove_30 : List UInt8 := 21 :: 4 :: t_Wa_remove_32
abbrev t_Wa_remove_27 : List UInt8 := 162 :: 0 :: 128 :: t_Wa_remove_30
abbrev t_Wa_remove_26 : List UInt8 := 46 :: t_Wa_remove_27
abbrev t_Wa_remove_25 : List UInt8 := 27 :: t_Wa_remove_26
abbrev t_Wa_remove_22 : List UInt8 := 180 :: 0 :: 24 :: t_Wa_remove_25
abbrev t_Wa_remove_21 : List UInt8 := 42 :: t_Wa_remove_22
abbrev t_Wa_remove_19 : List UInt8 := 21 :: 5 :: t_Wa_remove_21
abbrev t_Wa_remove_17 : List UInt8 := 54 :: 5 :: t_Wa_remove_19
abbrev t_Wa_remove_16 : List UInt8 := 3 :: t_Wa_remove_17
abbrev t_Wa_remove_14 : List UInt8 := 54 :: 4 :: t_Wa_remove_16
abbrev t_Wa_remove_13 : List UInt8 := 46 :: t_Wa_remove_14
abbrev t_Wa_remove_12 : List UInt8 := 27 :: t_Wa_remove_13
abbrev t_Wa_remove_9 : List UInt8 := 180 :: 0 :: 27 :: t_Wa_remove_12
abbrev t_Wa_remove_8 : List UInt8 := 42 :: t_Wa_remove_9
abbrev t_Wa_remove_7 : List UInt8 := 78 :: t_Wa_remove_8
abbrev t_Wa_remove_4 : List UInt8 := 180 :: 0 :: 81 :: t_Wa_remove_7
abbrev t_Wa_remove_1 : List UInt8 := 180 :: 0 :: 58 :: t_Wa_remove_4
abbrev t_Wa_remove_0 : List UInt8 := 42 :: t_Wa_remove_1
theorem a_Wa_remove_0 : dk_at b_Wa_remove 0 t_Wa_remove_0 := dk_start (by decide +kernel)
theorem a_Wa_remove_1 : dk_at b_Wa_remove 1 t_Wa_remove_1 := dk_go 1 a_Wa_remove_0 rfl
theorem a_Wa_remove_4 : dk_at b_Wa_remove 4 t_Wa_remove_4 := dk_go 3 a_Wa_remove_1 rfl
theorem a_Wa_remove_7 : dk_at b_Wa_remove 7 t_Wa_remove_7 := dk_go 3 a_Wa_remove_4 rfl
theorem a_Wa_remove_8 : dk_at b_Wa_remove 8 t_Wa_remove_8 := dk_go 1 a_Wa_remove_7 rfl
theorem a_Wa_remove_9 : dk_at b_Wa_remove 9 t_Wa_remove_9 := dk_go 1 a_Wa_remove_8 rfl
theorem a_Wa_remove_12 : dk_at b_Wa_remove 12 t_Wa_remove_12 := dk_go 3 a_Wa_remove_9 rfl
theorem a_Wa_remove_13 : dk_at b_Wa_remove 13 t_Wa_remove_13 := dk_go 1 a_Wa_remove_12 rfl
theorem a_Wa_remove_14 : dk_at b_Wa_remove 14 t_Wa_remove_14 := dk_go 1 a_Wa_remove_13 rfl
theorem a_Wa_remove_16 : dk_at b_Wa_remove 16 t_Wa_remove_16 := dk_go 2 a_Wa_remove_14 rfl
theorem a_Wa_remove_17 : dk_at b_Wa_remove 17 t_Wa_remove_17 := dk_go 1 a_Wa_remove_16 rfl
theorem a_Wa_remove_19 : dk_at b_Wa_remove 19 t_Wa_remove_19 := dk_go 2 a_Wa_remove_17 rfl
theorem a_Wa_remove_21 : dk_at b_Wa_remove 21 t_Wa_remove_21 := dk_go 2 a_Wa_remove_19 rfl
theorem a_Wa_remove_22 : dk_at b_Wa_remove 22 t_Wa_remove_22 := dk_go 1 a_Wa_remove_21 rfl
theorem a_Wa_remove_25 : dk_at b_Wa_remove 25 t_Wa_remove_25 := dk_go 3 a_Wa_remove_22 rfl
theorem a_Wa_remove_26 : dk_at b_Wa_remove 26 t_Wa_remove_26 := dk_go 1 a_Wa_remove_25 rfl
theorem a_Wa_remove_27 : dk_at b_Wa_remove 27 t_Wa_remove_27 := dk_go 1 a_Wa_remove_26 rfl
theorem a_Wa_remove_30 : dk_at b_Wa_remove 30 t_Wa_remove_30 := dk_go 3 a_Wa_remove_27 rfl
theorem a_Wa_remove_32 : dk_at b_Wa_remove 32 t_Wa_remove_32 := dk_go 2 a_Wa_remove_30 rfl
theorem a_Wa_remove_35 : dk_at b_Wa_remove 35 t_Wa_remove_35 := dk_go 3 a_Wa_remove_32 rfl
theorem a_Wa_remove_36 : dk_at b_Wa_remove 36 t_Wa_remove_36 := dk_go 1 a_Wa_remove_35 rfl
theorem a_Wa_remove_39 : dk_at b_Wa_remove 39 t_Wa_remove_39 := dk_go 3 a_Wa_remove_36 rfl
theorem a_Wa_remove_41 : dk_at b_Wa_remove 41 t_Wa_remove_41 := dk_go 2 a_Wa_remove_39 rfl
theorem a_Wa_remove_42 : dk_at b_Wa_remove 42 t_Wa_remove_42 := dk_go 1 a_Wa_remove_41 rfl
theorem a_Wa_remove_43 : dk_at b_Wa_remove 43 t_Wa_remove_43 := dk_go 1 a_Wa_remove_42 rfl
theorem a_Wa_remove_44 : dk_at b_Wa_remove 44 t_Wa_remove_44 := dk_go 1 a_Wa_remove_43 rfl
theorem a_Wa_remove_47 : dk_at b_Wa_remove 47 t_Wa_remove_47 := dk_go 3 a_Wa_remove_44 rfl
theorem a_Wa_remove_49 : dk_at b_Wa_remove 49 t_Wa_remove_49 := dk_go 2 a_Wa_remove_47 rfl
theorem a_Wa_remove_50 : dk_at b_Wa_remove 50 t_Wa_remove_50 := dk_go 1 a_Wa_remove_49 rfl
theorem a_Wa_remove_53 : dk_at b_Wa_remove 53 t_Wa_remove_53 := dk_go 3 a_Wa_remove_50 rfl
theorem a_Wa_remove_54 : dk_at b_Wa_remove 54 t_Wa_remove_54 := dk_go 1 a_Wa_remove_53 rfl
theorem a_Wa_remove_57 : dk_at b_Wa_remove 57 t_Wa_remove_57 := dk_go 3 a_Wa_remove_54 rfl
theorem a_Wa_remove_58 : dk_at b_Wa_remove 58 t_Wa_remove_58 := dk_go 1 a_Wa_remove_57 rfl
theorem a_Wa_remove_61 : dk_at b_Wa_remove 61 t_Wa_remove_61 := dk_go 3 a_Wa_remove_58 rfl
theorem a_Wa_remove_63 : dk_at b_Wa_remove 63 t_Wa_remove_63 := dk_go 2 a_Wa_remove_61 rfl
theorem a_Wa_remove_64 : dk_at b_Wa_remove 64 t_Wa_remove_64 := dk_go 1 a_Wa_remove_63 rfl
theorem a_Wa_remove_65 : dk_at b_Wa_remove 65 t_Wa_remove_65 := dk_go 1 a_Wa_remove_64 rfl
theorem a_Wa_remove_67 : dk_at b_Wa_remove 67 t_Wa_remove_67 := dk_go 2 a_Wa_remove_65 rfl
theorem a_Wa_remove_68 : dk_at b_Wa_remove 68 t_Wa_remove_68 := dk_go 1 a_Wa_remove_67 rfl
theorem a_Wa_remove_71 : dk_at b_Wa_remove 71 t_Wa_remove_71 := dk_go 3 a_Wa_remove_68 rfl
theorem a_Wa_remove_73 : dk_at b_Wa_remove 73 t_Wa_remove_73 := dk_go 2 a_Wa_remove_71 rfl
theorem a_Wa_remove_74 : dk_at b_Wa_remove 74 t_Wa_remove_74 := dk_go 1 a_Wa_remove_73 rfl
theorem a_Wa_remove_75 : dk_at b_Wa_remove 75 t_Wa_remove_75 := dk_go 1 a_Wa_remove_74 rfl
theorem a_Wa_remove_76 : dk_at b_Wa_remove 76 t_Wa_remove_76 := dk_go 1 a_Wa_remove_75 rfl
theorem a_Wa_remove_77 : dk_at b_Wa_remove 77 t_Wa_remove_77 := dk_go 1 a_Wa_remove_76 rfl
theorem a_Wa_remove_78 : dk_at b_Wa_remove 78 t_Wa_remove_78 := dk_go 1 a_Wa_remove_77 rfl
theorem a_Wa_remove_79 : dk_at b_Wa_remove 79 t_Wa_remove_79 := dk_go 1 a_Wa_remove_78 rfl
theorem a_Wa_remove_82 : dk_at b_Wa_remove 82 t_Wa_remove_82 := dk_go 3 a_Wa_remove_79 rfl
theorem a_Wa_remove_84 : dk_at b_Wa_remove 84 t_Wa_remove_84 := dk_go 2 a_Wa_remove_82 rfl
theorem a_Wa_remove_85 : dk_at b_Wa_remove 85 t_Wa_remove_85 := dk_go 1 a_Wa_remove_84 rfl
theorem a_Wa_remove_88 : dk_at b_Wa_remove 88 t_Wa_remove_88 := dk_go 3 a_Wa_remove_85 rfl
theorem a_Wa_remove_89 : dk_at b_Wa_remove 89 t_Wa_remove_89 := dk_go 1 a_Wa_remove_88 rfl
theorem a_Wa_remove_92 : dk_at b_Wa_remove 92 t_Wa_remove_92 := dk_go 3 a_Wa_remove_89 rfl
theorem a_Wa_remove_94 : dk_at b_Wa_remove 94 t_Wa_remove_94 := dk_go 2 a_Wa_remove_92 rfl
theorem a_Wa_remove_95 : dk_at b_Wa_remove 95 t_Wa_remove_95 := dk_go 1 a_Wa_remove_94 rfl
theorem a_Wa_remove_97 : dk_at b_Wa_remove 97 t_Wa_remove_97 := dk_go 2 a_Wa_remove_95 rfl
theorem a_Wa_remove_100 : dk_at b_Wa_remove 100 t_Wa_remove_100 := dk_go 3 a_Wa_remove_97 rfl
theorem a_Wa_remove_101 : dk_at b_Wa_remove 101 t_Wa_remove_101 := dk_go 1 a_Wa_remove_100 rfl
theorem a_Wa_remove_104 : dk_at b_Wa_remove 104 t_Wa_remove_104 := dk_go 3 a_Wa_remove_101 rfl
theorem a_Wa_remove_107 : dk_at b_Wa_remove 107 t_Wa_remove_107 := dk_go 3 a_Wa_remove_104 rfl
theorem a_Wa_remove_109 : dk_at b_Wa_remove 109 t_Wa_remove_109 := dk_go 2 a_Wa_remove_107 rfl
theorem a_Wa_remove_110 : dk_at b_Wa_remove 110 t_Wa_remove_110 := dk_go 1 a_Wa_remove_109 rfl
theorem a_Wa_remove_113 : dk_at b_Wa_remove 113 t_Wa_remove_113 := dk_go 3 a_Wa_remove_110 rfl
theorem a_Wa_remove_114 : dk_at b_Wa_remove 114 t_Wa_remove_114 := dk_go 1 a_Wa_remove_113 rfl
theorem a_Wa_remove_117 : dk_at b_Wa_remove 117 t_Wa_remove_117 := dk_go 3 a_Wa_remove_114 rfl
theorem a_Wa_remove_119 : dk_at b_Wa_remove 119 t_Wa_remove_119 := dk_go 2 a_Wa_remove_117 rfl
theorem a_Wa_remove_120 : dk_at b_Wa_remove 120 t_Wa_remove_120 := dk_go 1 a_Wa_remove_119 rfl
theorem a_Wa_remove_123 : dk_at b_Wa_remove 123 t_Wa_remove_123 := dk_go 3 a_Wa_remove_120 rfl
theorem a_Wa_remove_124 : dk_at b_Wa_remove 124 t_Wa_remove_124 := dk_go 1 a_Wa_remove_123 rfl
theorem a_Wa_remove_127 : dk_at b_Wa_remove 127 t_Wa_remove_127 := dk_go 3 a_Wa_remove_124 rfl
theorem a_Wa_remove_129 : dk_at b_Wa_remove 129 t_Wa_remove_129 := dk_go 2 a_Wa_remove_127 rfl
theorem a_Wa_remove_130 : dk_at b_Wa_remove 130 t_Wa_remove_130 := dk_go 1 a_Wa_remove_129 rfl
theorem a_Wa_remove_131 : dk_at b_Wa_remove 131 t_Wa_remove_131 := dk_go 1 a_Wa_remove_130 rfl
theorem a_Wa_remove_134 : dk_at b_Wa_remove 134 t_Wa_remove_134 := dk_go 3 a_Wa_remove_131 rfl
theorem a_Wa_remove_135 : dk_at b_Wa_remove 135 t_Wa_remove_135 := dk_go 1 a_Wa_remove_134 rfl
theorem a_Wa_remove_138 : dk_at b_Wa_remove 138 t_Wa_remove_138 := dk_go 3 a_Wa_remove_135 rfl
theorem a_Wa_remove_139 : dk_at b_Wa_remove 139 t_Wa_remove_139 := dk_go 1 a_Wa_remove_138 rfl
theorem a_Wa_remove_140 : dk_at b_Wa_remove 140 t_Wa_remove_140 := dk_go 1 a_Wa_remove_139 rfl
theorem a_Wa_remove_141 : dk_at b_Wa_remove 141 t_Wa_remove_141 := dk_go 1 a_Wa_remove_140 rfl
theorem a_Wa_remove_144 : dk_at b_Wa_remove 144 t_Wa_remove_144 := dk_go 3 a_Wa_remove_141 rfl
theorem a_Wa_remove_146 : dk_at b_Wa_remove 146 t_Wa_remove_146 := dk_go 2 a_Wa_remove_144 rfl
theorem a_Wa_remove_147 : dk_at b_Wa_remove 147 t_Wa_remove_147 := dk_go 1 a_Wa_remove_146 rfl
theorem a_Wa_remove_149 : dk_at b_Wa_remove 149 t_Wa_remove_149 := dk_go 2 a_Wa_remove_147 rfl
theorem a_Wa_remove_152 : dk_at b_Wa_remove 152 t_Wa_remove_152 := dk_go 3 a_Wa_remove_149 rfl
theorem a_Wa_remove_155 : dk_at b_Wa_remove 155 t_Wa_remove_155 := dk_go 3 a_Wa_remove_152 rfl
theorem a_Wa_remove_156 : dk_at b_Wa_remove 156 t_Wa_remove_156 := dk_go 1 a_Wa_remove_155 rfl
theorem a_Wa_remove_157 : dk_at b_Wa_remove 157 t_Wa_remove_157 := dk_go 1 a_Wa_remove_156 rfl
theorem a_Wa_remove_160 : dk_at b_Wa_remove 160 t_Wa_remove_160 := dk_go 3 a_Wa_remove_157 rfl
theorem a_Wa_remove_161 : dk_at b_Wa_remove 161 t_Wa_remove_161 := dk_go 1 a_Wa_remove_160 rfl
theorem a_Wa_remove_162 : dk_at b_Wa_remove 162 t_Wa_remove_162 := dk_go 1 a_Wa_remove_161 rfl
theorem a_Wa_remove_165 : dk_at b_Wa_remove 165 t_Wa_remove_165 := dk_go 3 a_Wa_remove_162 rfl
theorem a_Wa_remove_166 : dk_at b_Wa_remove 166 t_Wa_remove_166 := dk_go 1 a_Wa_remove_165 rfl
theorem a_Wa_remove_168 : dk_at b_Wa_remove 168 t_Wa_remove_168 := dk_go 2 a_Wa_remove_166 rfl
theorem a_Wa_remove_170 : dk_at b_Wa_remove 170 t_Wa_remove_170 := dk_go 2 a_Wa_remove_168 rfl
theorem a_Wa_remove_171 : dk_at b_Wa_remove 171 t_Wa_remove_171 := dk_go 1 a_Wa_remove_170 rfl
theorem a_Wa_remove_174 : dk_at b_Wa_remove 174 t_Wa_remove_174 := dk_go 3 a_Wa_remove_171 rfl
theorem a_Wa_remove_177 : dk_at b_Wa_remove 177 t_Wa_remove_177 := dk_go 3 a_Wa_remove_174 rfl
theorem a_Wa_remove_178 : dk_at b_Wa_remove 178 t_Wa_remove_178 := dk_go 1 a_Wa_remove_177 rfl
theorem a_Wa_remove_181 : dk_at b_Wa_remove 181 t_Wa_remove_181 := dk_go 3 a_Wa_remove_178 rfl
theorem a_Wa_remove_183 : dk_at b_Wa_remove 183 t_Wa_remove_183 := dk_go 2 a_Wa_remove_181 rfl
theorem a_Wa_remove_184 : dk_at b_Wa_remove 184 t_Wa_remove_184 := dk_go 1 a_Wa_remove_183 rfl
theorem a_Wa_remove_187 : dk_at b_Wa_remove 187 t_Wa_remove_187 := dk_go 3 a_Wa_remove_184 rfl
theorem a_Wa_remove_189 : dk_at b_Wa_remove 189 t_Wa_remove_189 := dk_go 2 a_Wa_remove_187 rfl
theorem a_Wa_remove_190 : dk_at b_Wa_remove 190 t_Wa_remove_190 := dk_go 1 a_Wa_remove_189 rfl
theorem a_Wa_remove_191 : dk_at b_Wa_remove 191 t_Wa_remove_191 := dk_go 1 a_Wa_remove_190 rfl
theorem a_Wa_remove_192 : dk_at b_Wa_remove 192 t_Wa_remove_192 := dk_go 1 a_Wa_remove_191 rfl
theorem a_Wa_remove_193 : dk_at b_Wa_remove 193 t_Wa_remove_193 := dk_go 1 a_Wa_remove_192 rfl
theorem a_Wa_remove_194 : dk_at b_Wa_remove 194 t_Wa_remove_194 := dk_go 1 a_Wa_remove_193 rfl
theorem a_Wa_remove_197 : dk_at b_Wa_remove 197 t_Wa_remove_197 := dk_go 3 a_Wa_remove_194 rfl
theorem a_Wa_remove_199 : dk_at b_Wa_remove 199 t_Wa_remove_199 := dk_go 2 a_Wa_remove_197 rfl
theorem a_Wa_remove_200 : dk_at b_Wa_remove 200 t_Wa_remove_200 := dk_go 1 a_Wa_remove_199 rfl
theorem a_Wa_remove_203 : dk_at b_Wa_remove 203 t_Wa_remove_203 := dk_go 3 a_Wa_remove_200 rfl
theorem a_Wa_remove_205 : dk_at b_Wa_remove 205 t_Wa_remove_205 := dk_go 2 a_Wa_remove_203 rfl
theorem a_Wa_remove_206 : dk_at b_Wa_remove 206 t_Wa_remove_206 := dk_go 1 a_Wa_remove_205 rfl
theorem a_Wa_remove_207 : dk_at b_Wa_remove 207 t_Wa_remove_207 := dk_go 1 a_Wa_remove_206 rfl
theorem a_Wa_remove_208 : dk_at b_Wa_remove 208 t_Wa_remove_208 := dk_go 1 a_Wa_remove_207 rfl
theorem a_Wa_remove_209 : dk_at b_Wa_remove 209 t_Wa_remove_209 := dk_go 1 a_Wa_remove_208 rfl
theorem a_Wa_remove_210 : dk_at b_Wa_remove 210 t_Wa_remove_210 := dk_go 1 a_Wa_remove_209 rfl
theorem a_Wa_remove_213 : dk_at b_Wa_remove 213 t_Wa_remove_213 := dk_go 3 a_Wa_remove_210 rfl
theorem a_Wa_remove_215 : dk_at b_Wa_remove 215 t_Wa_remove_215 := dk_go 2 a_Wa_remove_213 rfl
theorem a_Wa_remove_216 : dk_at b_Wa_remove 216 t_Wa_remove_216 := dk_go 1 a_Wa_remove_215 rfl
theorem a_Wa_remove_219 : dk_at b_Wa_remove 219 t_Wa_remove_219 := dk_go 3 a_Wa_remove_216 rfl
theorem a_Wa_remove_221 : dk_at b_Wa_remove 221 t_Wa_remove_221 := dk_go 2 a_Wa_remove_219 rfl
theorem a_Wa_remove_222 : dk_at b_Wa_remove 222 t_Wa_remove_222 := dk_go 1 a_Wa_remove_221 rfl
theorem a_Wa_remove_223 : dk_at b_Wa_remove 223 t_Wa_remove_223 := dk_go 1 a_Wa_remove_222 rfl
theorem a_Wa_remove_224 : dk_at b_Wa_remove 224 t_Wa_remove_224 := dk_go 1 a_Wa_remove_223 rfl
theorem a_Wa_remove_225 : dk_at b_Wa_remove 225 t_Wa_remove_225 := dk_go 1 a_Wa_remove_224 rfl
theorem a_Wa_remove_226 : dk_at b_Wa_remove 226 t_Wa_remove_226 := dk_go 1 a_Wa_remove_225 rfl
theorem a_Wa_remove_229 : dk_at b_Wa_remove 229 t_Wa_remove_229 := dk_go 3 a_Wa_remove_226 rfl
theorem a_Wa_remove_231 : dk_at b_Wa_remove 231 t_Wa_remove_231 := dk_go 2 a_Wa_remove_229 rfl
theorem a_Wa_remove_232 : dk_at b_Wa_remove 232 t_Wa_remove_232 := dk_go 1 a_Wa_remove_231 rfl
theorem a_Wa_remove_235 : dk_at b_Wa_remove 235 t_Wa_remove_235 := dk_go 3 a_Wa_remove_232 rfl
theorem a_Wa_remove_237 : dk_at b_Wa_remove 237 t_Wa_remove_237 := dk_go 2 a_Wa_remove_235 rfl
theorem a_Wa_remove_238 : dk_at b_Wa_remove 238 t_Wa_remove_238 := dk_go 1 a_Wa_remove_237 rfl
theorem a_Wa_remove_239 : dk_at b_Wa_remove 239 t_Wa_remove_239 := dk_go 1 a_Wa_remove_238 rfl
theorem a_Wa_remove_240 : dk_at b_Wa_remove 240 t_Wa_remove_240 := dk_go 1 a_Wa_remove_239 rfl
theorem a_Wa_remove_241 : dk_at b_Wa_remove 241 t_Wa_remove_241 := dk_go 1 a_Wa_remove_240 rfl
theorem a_Wa_remove_242 : dk_at b_Wa_remove 242 t_Wa_remove_242 := dk_go 1 a_Wa_remove_241 rfl
theorem a_Wa_remove_245 : dk_at b_Wa_remove 245 t_Wa_remove_245 := dk_go 3 a_Wa_remove_242 rfl
theorem a_Wa_remove_247 : dk_at b_Wa_remove 247 t_Wa_remove_247 := dk_go 2 a_Wa_remove_245 rfl
theorem a_Wa_remove_248 : dk_at b_Wa_remove 248 t_Wa_remove_248 := dk_go 1 a_Wa_remove_247 rfl
theorem a_Wa_remove_251 : dk_at b_Wa_remove 251 t_Wa_remove_251 := dk_go 3 a_Wa_remove_248 rfl
theorem a_Wa_remove_253 : dk_at b_Wa_remove 253 t_Wa_remove_253 := dk_go 2 a_Wa_remove_251 rfl
theorem a_Wa_remove_254 : dk_at b_Wa_remove 254 t_Wa_remove_254 := dk_go 1 a_Wa_remove_253 rfl
theorem a_Wa_remove_255 : dk_at b_Wa_remove 255 t_Wa_remove_255 := dk_go 1 a_Wa_remove_254 rfl
theorem a_Wa_remove_256 : dk_at b_Wa_remove 256 t_Wa_remove_256 := dk_go 1 a_Wa_remove_255 rfl
theorem a_Wa_remove_257 : dk_at b_Wa_remove 257 t_Wa_remove_257 := dk_go 1 a_Wa_remove_256 rfl
theorem a_Wa_remove_258 : dk_at b_Wa_remove 258 t_Wa_remove_258 := dk_go 1 a_Wa_remove_257 rfl
theorem a_Wa_remove_261 : dk_at b_Wa_remove 261 t_Wa_remove_261 := dk_go 3 a_Wa_remove_258 rfl
theorem a_Wa_remove_263 : dk_at b_Wa_remove 263 t_Wa_remove_263 := dk_go 2 a_Wa_remove_261 rfl
theorem a_Wa_remove_264 : dk_at b_Wa_remove 264 t_Wa_remove_264 := dk_go 1 a_Wa_remove_263 rfl
theorem a_Wa_remove_267 : dk_at b_Wa_remove 267 t_Wa_remove_267 := dk_go 3 a_Wa_remove_264 rfl
theorem a_Wa_remove_269 : dk_at b_Wa_remove 269 t_Wa_remove_269 := dk_go 2 a_Wa_remove_267 rfl
theorem a_Wa_remove_270 : dk_at b_Wa_remove 270 t_Wa_remove_270 := dk_go 1 a_Wa_remove_269 rfl
theorem a_Wa_remove_271 : dk_at b_Wa_remove 271 t_Wa_remove_271 := dk_go 1 a_Wa_remove_270 rfl
theorem a_Wa_remove_272 : dk_at b_Wa_remove 272 t_Wa_remove_272 := dk_go 1 a_Wa_remove_271 rfl
theorem a_Wa_remove_273 : dk_at b_Wa_remove 273 t_Wa_remove_273 := dk_go 1 a_Wa_remove_272 rfl
theorem a_Wa_remove_274 : dk_at b_Wa_remove 274 t_Wa_remove_274 := dk_go 1 a_Wa_remove_273 rfl
theorem a_Wa_remove_277 : dk_at b_Wa_remove 277 t_Wa_remove_277 := dk_go 3 a_Wa_remove_274 rfl
theorem a_Wa_remove_279 : dk_at b_Wa_remove 279 t_Wa_remove_279 := dk_go 2 a_Wa_remove_277 rfl
theorem a_Wa_remove_280 : dk_at b_Wa_remove 280 t_Wa_remove_280 := dk_go 1 a_Wa_remove_279 rfl
theorem a_Wa_remove_283 : dk_at b_Wa_remove 283 t_Wa_remove_283 := dk_go 3 a_Wa_remove_280 rfl
theorem a_Wa_remove_285 : dk_at b_Wa_remove 285 t_Wa_remove_285 := dk_go 2 a_Wa_remove_283 rfl
theorem a_Wa_remove_286 : dk_at b_Wa_remove 286 t_Wa_remove_286 := dk_go 1 a_Wa_remove_285 rfl
theorem a_Wa_remove_287 : dk_at b_Wa_remove 287 t_Wa_remove_287 := dk_go 1 a_Wa_remove_286 rfl
theorem a_Wa_remove_288 : dk_at b_Wa_remove 288 t_Wa_remove_288 := dk_go 1 a_Wa_remove_287 rfl
theorem a_Wa_remove_289 : dk_at b_Wa_remove 289 t_Wa_remove_289 := dk_go 1 a_Wa_remove_288 rfl
theorem a_Wa_remove_292 : dk_at b_Wa_remove 292 t_Wa_remove_292 := dk_go 3 a_Wa_remove_289 rfl
theorem a_Wa_remove_295 : dk_at b_Wa_remove 295 t_Wa_remove_295 := dk_go 3 a_Wa_remove_292 rfl
theorem d_Wa_remove_0 : decode b_Wa_remove 0 = .ok (.aload_n 0, 1) := dk_0 a_Wa_remove_0 (dko_42 _)
theorem d_Wa_remove_1 : decode b_Wa_remove 1 = .ok (.getfield 58, 3) := dk_U2 a_Wa_remove_1 (dko_180 _) rfl
theorem d_Wa_remove_4 : decode b_Wa_remove 4 = .ok (.getfield 81, 3) := dk_U2 a_Wa_remove_4 (dko_180 _) rfl
theorem d_Wa_remove_7 : decode b_Wa_remove 7 = .ok (.astore_n 3, 1) := dk_0 a_Wa_remove_7 (dko_78 _)
theorem d_Wa_remove_8 : decode b_Wa_remove 8 = .ok (.aload_n 0, 1) := dk_0 a_Wa_remove_8 (dko_42 _)
theorem d_Wa_remove_9 : decode b_Wa_remove 9 = .ok (.getfield 27, 3) := dk_U2 a_Wa_remove_9 (dko_180 _) rfl
theorem d_Wa_remove_12 : decode b_Wa_remove 12 = .ok (.iload_n 1, 1) := dk_0 a_Wa_remove_12 (dko_27 _)
theorem d_Wa_remove_13 : decode b_Wa_remove 13 = .ok (.iaload, 1) := dk_0 a_Wa_remove_13 (dko_46 _)
theorem d_Wa_remove_14 : decode b_Wa_remove 14 = .ok (.istore 4, 2) := dk_U1 a_Wa_remove_14 (dko_54 _) rfl
theorem d_Wa_remove_16 : decode b_Wa_remove 16 = .ok (.iconst 0, 1) := dk_0 a_Wa_remove_16 (dko_3 _)
theorem d_Wa_remove_17 : decode b_Wa_remove 17 = .ok (.istore 5, 2) := dk_U1 a_Wa_remove_17 (dko_54 _) rfl
theorem d_Wa_remove_19 : decode b_Wa_remove 19 = .ok (.iload 5, 2) := dk_U1 a_Wa_remove_19 (dko_21 _) rfl
theorem d_Wa_remove_21 : decode b_Wa_remove 21 = .ok (.aload_n 0, 1) := dk_0 a_Wa_remove_21 (dko_42 _)
theorem d_Wa_remove_22 : decode b_Wa_remove 22 = .ok (.getfield 24, 3) := dk_U2 a_Wa_remove_22 (dko_180 _) rfl
theorem d_Wa_remove_25 : decode b_Wa_remove 25 = .ok (.iload_n 1, 1) := dk_0 a_Wa_remove_25 (dko_27 _)
theorem d_Wa_remove_26 : decode b_Wa_remove 26 = .ok (.iaload, 1) := dk_0 a_Wa_remove_26 (dko_46 _)
theorem d_Wa_remove_27 : decode b_Wa_remove 27 = .ok (.if_icmp .ge 128, 3) := dk_S2 a_Wa_remove_27 (dko_162 _) (by decide +kernel)
theorem d_Wa_remove_30 : decode b_Wa_remove 30 = .ok (.iload 4, 2) := dk_U1 a_Wa_remove_30 (dko_21 _) rfl
theorem d_Wa_remove_32 : decode b_Wa_remove 32 = .ok (.ifCond .lt 123, 3) := dk_S2 a_Wa_remove_32 (dko_155 _) (by decide +kernel)
theorem d_Wa_remove_35 : decode b_Wa_remove 35 = .ok (.aload_n 0, 1) := dk_0 a_Wa_remove_35 (dko_42 _)
theorem d_Wa_remove_36 : decode b_Wa_remove 36 = .ok (.getfield 39, 3) := dk_U2 a_Wa_remove_36 (dko_180 _) rfl
theorem d_Wa_remove_39 : decode b_Wa_remove 39 = .ok (.iload 4, 2) := dk_U1 a_Wa_remove_39 (dko_21 _) rfl
theorem d_Wa_remove_41 : decode b_Wa_remove 41 = .ok (.iconst 0, 1) := dk_0 a_Wa_remove_41 (dko_3 _)
theorem d_Wa_remove_42 : decode b_Wa_remove 42 = .ok (.bastore, 1) := dk_0 a_Wa_remove_42 (dko_84 _)
theorem d_Wa_remove_43 : decode b_Wa_remove 43 = .ok (.aload_n 0, 1) := dk_0 a_Wa_remove_43 (dko_42 _)
theorem d_Wa_remove_44 : decode b_Wa_remove 44 = .ok (.getfield 36, 3) := dk_U2 a_Wa_remove_44 (dko_180 _) rfl
theorem d_Wa_remove_47 : decode b_Wa_remove 47 = .ok (.iload 4, 2) := dk_U1 a_Wa_remove_47 (dko_21 _) rfl
theorem d_Wa_remove_49 : decode b_Wa_remove 49 = .ok (.iaload, 1) := dk_0 a_Wa_remove_49 (dko_46 _)
theorem d_Wa_remove_50 : decode b_Wa_remove 50 = .ok (.ifCond .lt 90, 3) := dk_S2 a_Wa_remove_50 (dko_155 _) (by decide +kernel)
theorem d_Wa_remove_53 : decode b_Wa_remove 53 = .ok (.aload_n 3, 1) := dk_0 a_Wa_remove_53 (dko_45 _)
theorem d_Wa_remove_54 : decode b_Wa_remove 54 = .ok (.getfield 93, 3) := dk_U2 a_Wa_remove_54 (dko_180 _) rfl
theorem d_Wa_remove_57 : decode b_Wa_remove 57 = .ok (.aload_n 0, 1) := dk_0 a_Wa_remove_57 (dko_42 _)
theorem d_Wa_remove_58 : decode b_Wa_remove 58 = .ok (.getfield 33, 3) := dk_U2 a_Wa_remove_58 (dko_180 _) rfl
theorem d_Wa_remove_61 : decode b_Wa_remove 61 = .ok (.iload 4, 2) := dk_U1 a_Wa_remove_61 (dko_21 _) rfl
theorem d_Wa_remove_63 : decode b_Wa_remove 63 = .ok (.iaload, 1) := dk_0 a_Wa_remove_63 (dko_46 _)
theorem d_Wa_remove_64 : decode b_Wa_remove 64 = .ok (.iaload, 1) := dk_0 a_Wa_remove_64 (dko_46 _)
theorem d_Wa_remove_65 : decode b_Wa_remove 65 = .ok (.istore 6, 2) := dk_U1 a_Wa_remove_65 (dko_54 _) rfl
theorem d_Wa_remove_67 : decode b_Wa_remove 67 = .ok (.aload_n 0, 1) := dk_0 a_Wa_remove_67 (dko_42 _)
theorem d_Wa_remove_68 : decode b_Wa_remove 68 = .ok (.getfield 43, 3) := dk_U2 a_Wa_remove_68 (dko_180 _) rfl
theorem d_Wa_remove_71 : decode b_Wa_remove 71 = .ok (.iload 6, 2) := dk_U1 a_Wa_remove_71 (dko_21 _) rfl
theorem d_Wa_remove_73 : decode b_Wa_remove 73 = .ok (.dup2, 1) := dk_0 a_Wa_remove_73 (dko_92 _)
theorem d_Wa_remove_74 : decode b_Wa_remove 74 = .ok (.iaload, 1) := dk_0 a_Wa_remove_74 (dko_46 _)
theorem d_Wa_remove_75 : decode b_Wa_remove 75 = .ok (.iconst 1, 1) := dk_0 a_Wa_remove_75 (dko_4 _)
theorem d_Wa_remove_76 : decode b_Wa_remove 76 = .ok (.isub, 1) := dk_0 a_Wa_remove_76 (dko_100 _)
theorem d_Wa_remove_77 : decode b_Wa_remove 77 = .ok (.iastore, 1) := dk_0 a_Wa_remove_77 (dko_79 _)
theorem d_Wa_remove_78 : decode b_Wa_remove 78 = .ok (.aload_n 0, 1) := dk_0 a_Wa_remove_78 (dko_42 _)
theorem d_Wa_remove_79 : decode b_Wa_remove 79 = .ok (.getfield 43, 3) := dk_U2 a_Wa_remove_79 (dko_180 _) rfl
theorem d_Wa_remove_82 : decode b_Wa_remove 82 = .ok (.iload 6, 2) := dk_U1 a_Wa_remove_82 (dko_21 _) rfl
theorem d_Wa_remove_84 : decode b_Wa_remove 84 = .ok (.iaload, 1) := dk_0 a_Wa_remove_84 (dko_46 _)
theorem d_Wa_remove_85 : decode b_Wa_remove 85 = .ok (.ifCond .ne 55, 3) := dk_S2 a_Wa_remove_85 (dko_154 _) (by decide +kernel)
theorem d_Wa_remove_88 : decode b_Wa_remove 88 = .ok (.aload_n 3, 1) := dk_0 a_Wa_remove_88 (dko_45 _)
theorem d_Wa_remove_89 : decode b_Wa_remove 89 = .ok (.getfield 113, 3) := dk_U2 a_Wa_remove_89 (dko_180 _) rfl
theorem d_Wa_remove_92 : decode b_Wa_remove 92 = .ok (.iload 6, 2) := dk_U1 a_Wa_remove_92 (dko_21 _) rfl
theorem d_Wa_remove_94 : decode b_Wa_remove 94 = .ok (.iaload, 1) := dk_0 a_Wa_remove_94 (dko_46 _)
theorem d_Wa_remove_95 : decode b_Wa_remove 95 = .ok (.bipush 8, 2) := dk_S1 a_Wa_remove_95 (dko_16 _) (by decide +kernel)
theorem d_Wa_remove_97 : decode b_Wa_remove 97 = .ok (.if_icmp .eq 43, 3) := dk_S2 a_Wa_remove_97 (dko_159 _) (by decide +kernel)
theorem d_Wa_remove_100 : decode b_Wa_remove 100 = .ok (.aload_n 0, 1) := dk_0 a_Wa_remove_100 (dko_42 _)
theorem d_Wa_remove_101 : decode b_Wa_remove 101 = .ok (.getfield 58, 3) := dk_U2 a_Wa_remove_101 (dko_180 _) rfl
theorem d_Wa_remove_104 : decode b_Wa_remove 104 = .ok (.getfield 119, 3) := dk_U2 a_Wa_remove_104 (dko_180 _) rfl
theorem d_Wa_remove_107 : decode b_Wa_remove 107 = .ok (.iload 6, 2) := dk_U1 a_Wa_remove_107 (dko_21 _) rfl
theorem d_Wa_remove_109 : decode b_Wa_remove 109 = .ok (.iload_n 2, 1) := dk_0 a_Wa_remove_109 (dko_28 _)
theorem d_Wa_remove_110 : decode b_Wa_remove 110 = .ok (.ifCond .eq 13, 3) := dk_S2 a_Wa_remove_110 (dko_153 _) (by decide +kernel)
theorem d_Wa_remove_113 : decode b_Wa_remove 113 = .ok (.aload_n 0, 1) := dk_0 a_Wa_remove_113 (dko_42 _)
theorem d_Wa_remove_114 : decode b_Wa_remove 114 = .ok (.getfield 52, 3) := dk_U2 a_Wa_remove_114 (dko_180 _) rfl
theorem d_Wa_remove_117 : decode b_Wa_remove 117 = .ok (.iload 6, 2) := dk_U1 a_Wa_remove_117 (dko_21 _) rfl
theorem d_Wa_remove_119 : decode b_Wa_remove 119 = .ok (.iaload, 1) := dk_0 a_Wa_remove_119 (dko_46 _)
theorem d_Wa_remove_120 : decode b_Wa_remove 120 = .ok (.goto 19, 3) := dk_S2 a_Wa_remove_120 (dko_167 _) (by decide +kernel)
theorem d_Wa_remove_123 : decode b_Wa_remove 123 = .ok (.aload_n 3, 1) := dk_0 a_Wa_remove_123 (dko_45 _)
theorem d_Wa_remove_124 : decode b_Wa_remove 124 = .ok (.getfield 113, 3) := dk_U2 a_Wa_remove_124 (dko_180 _) rfl
theorem d_Wa_remove_127 : decode b_Wa_remove 127 = .ok (.iload 6, 2) := dk_U1 a_Wa_remove_127 (dko_21 _) rfl
theorem d_Wa_remove_129 : decode b_Wa_remove 129 = .ok (.iaload, 1) := dk_0 a_Wa_remove_129 (dko_46 _)
theorem d_Wa_remove_130 : decode b_Wa_remove 130 = .ok (.iconst 1, 1) := dk_0 a_Wa_remove_130 (dko_4 _)
theorem d_Wa_remove_131 : decode b_Wa_remove 131 = .ok (.if_icmp .ne 7, 3) := dk_S2 a_Wa_remove_131 (dko_160 _) (by decide +kernel)
theorem d_Wa_remove_134 : decode b_Wa_remove 134 = .ok (.iconst 2, 1) := dk_0 a_Wa_remove_134 (dko_5 _)
theorem d_Wa_remove_135 : decode b_Wa_remove 135 = .ok (.goto 4, 3) := dk_S2 a_Wa_remove_135 (dko_167 _) (by decide +kernel)
theorem d_Wa_remove_138 : decode b_Wa_remove 138 = .ok (.iconst 0, 1) := dk_0 a_Wa_remove_138 (dko_3 _)
theorem d_Wa_remove_139 : decode b_Wa_remove 139 = .ok (.iastore, 1) := dk_0 a_Wa_remove_139 (dko_79 _)
theorem d_Wa_remove_140 : decode b_Wa_remove 140 = .ok (.aload_n 0, 1) := dk_0 a_Wa_remove_140 (dko_42 _)
theorem d_Wa_remove_141 : decode b_Wa_remove 141 = .ok (.getfield 36, 3) := dk_U2 a_Wa_remove_141 (dko_180 _) rfl
theorem d_Wa_remove_144 : decode b_Wa_remove 144 = .ok (.iload 4, 2) := dk_U1 a_Wa_remove_144 (dko_21 _) rfl
theorem d_Wa_remove_146 : decode b_Wa_remove 146 = .ok (.iaload, 1) := dk_0 a_Wa_remove_146 (dko_46 _)
theorem d_Wa_remove_147 : decode b_Wa_remove 147 = .ok (.istore 4, 2) := dk_U1 a_Wa_remove_147 (dko_54 _) rfl
theorem d_Wa_remove_149 : decode b_Wa_remove 149 = .ok (.iinc 5 1, 3) := dk_US a_Wa_remove_149 (dko_132 _) (by decide +kernel)
theorem d_Wa_remove_152 : decode b_Wa_remove 152 = .ok (.goto (-133), 3) := dk_S2 a_Wa_remove_152 (dko_167 _) (by decide +kernel)
theorem d_Wa_remove_155 : decode b_Wa_remove 155 = .ok (.aload_n 0, 1) := dk_0 a_Wa_remove_155 (dko_42 _)
theorem d_Wa_remove_156 : decode b_Wa_remove 156 = .ok (.dup, 1) := dk_0 a_Wa_remove_156 (dko_89 _)
theorem d_Wa_remove_157 : decode b_Wa_remove 157 = .ok (.getfield 65, 3) := dk_U2 a_Wa_remove_157 (dko_180 _) rfl
theorem d_Wa_remove_160 : decode b_Wa_remove 160 = .ok (.iconst 1, 1) := dk_0 a_Wa_remove_160 (dko_4 _)
theorem d_Wa_remove_161 : decode b_Wa_remove 161 = .ok (.isub, 1) := dk_0 a_Wa_remove_161 (dko_100 _)
theorem d_Wa_remove_162 : decode b_Wa_remove 162 = .ok (.putfield 65, 3) := dk_U2 a_Wa_remove_162 (dko_181 _) rfl
theorem d_Wa_remove_165 : decode b_Wa_remove 165 = .ok (.iload_n 1, 1) := dk_0 a_Wa_remove_165 (dko_27 _)
theorem d_Wa_remove_166 : decode b_Wa_remove 166 = .ok (.istore 5, 2) := dk_U1 a_Wa_remove_166 (dko_54 _) rfl
theorem d_Wa_remove_168 : decode b_Wa_remove 168 = .ok (.iload 5, 2) := dk_U1 a_Wa_remove_168 (dko_21 _) rfl
theorem d_Wa_remove_170 : decode b_Wa_remove 170 = .ok (.aload_n 0, 1) := dk_0 a_Wa_remove_170 (dko_42 _)
theorem d_Wa_remove_171 : decode b_Wa_remove 171 = .ok (.getfield 65, 3) := dk_U2 a_Wa_remove_171 (dko_180 _) rfl
theorem d_Wa_remove_174 : decode b_Wa_remove 174 = .ok (.if_icmp .ge 121, 3) := dk_S2 a_Wa_remove_174 (dko_162 _) (by decide +kernel)
theorem d_Wa_remove_177 : decode b_Wa_remove 177 = .ok (.aload_n 0, 1) := dk_0 a_Wa_remove_177 (dko_42 _)
theorem d_Wa_remove_178 : decode b_Wa_remove 178 = .ok (.getfield 9, 3) := dk_U2 a_Wa_remove_178 (dko_180 _) rfl
theorem d_Wa_remove_181 : decode b_Wa_remove 181 = .ok (.iload 5, 2) := dk_U1 a_Wa_remove_181 (dko_21 _) rfl
theorem d_Wa_remove_183 : decode b_Wa_remove 183 = .ok (.aload_n 0, 1) := dk_0 a_Wa_remove_183 (dko_42 _)
theorem d_Wa_remove_184 : decode b_Wa_remove 184 = .ok (.getfield 9, 3) := dk_U2 a_Wa_remove_184 (dko_180 _) rfl
theorem d_Wa_remove_187 : decode b_Wa_remove 187 = .ok (.iload 5, 2) := dk_U1 a_Wa_remove_187 (dko_21 _) rfl
theorem d_Wa_remove_189 : decode b_Wa_remove 189 = .ok (.iconst 1, 1) := dk_0 a_Wa_remove_189 (dko_4 _)
theorem d_Wa_remove_190 : decode b_Wa_remove 190 = .ok (.iadd, 1) := dk_0 a_Wa_remove_190 (dko_96 _)
theorem d_Wa_remove_191 : decode b_Wa_remove 191 = .ok (.iaload, 1) := dk_0 a_Wa_remove_191 (dko_46 _)
theorem d_Wa_remove_192 : decode b_Wa_remove 192 = .ok (.iastore, 1) := dk_0 a_Wa_remove_192 (dko_79 _)
theorem d_Wa_remove_193 : decode b_Wa_remove 193 = .ok (.aload_n 0, 1) := dk_0 a_Wa_remove_193 (dko_42 _)
theorem d_Wa_remove_194 : decode b_Wa_remove 194 = .ok (.getfield 15, 3) := dk_U2 a_Wa_remove_194 (dko_180 _) rfl
theorem d_Wa_remove_197 : decode b_Wa_remove 197 = .ok (.iload 5, 2) := dk_U1 a_Wa_remove_197 (dko_21 _) rfl
theorem d_Wa_remove_199 : decode b_Wa_remove 199 = .ok (.aload_n 0, 1) := dk_0 a_Wa_remove_199 (dko_42 _)
theorem d_Wa_remove_200 : decode b_Wa_remove 200 = .ok (.getfield 15, 3) := dk_U2 a_Wa_remove_200 (dko_180 _) rfl
theorem d_Wa_remove_203 : decode b_Wa_remove 203 = .ok (.iload 5, 2) := dk_U1 a_Wa_remove_203 (dko_21 _) rfl
theorem d_Wa_remove_205 : decode b_Wa_remove 205 = .ok (.iconst 1, 1) := dk_0 a_Wa_remove_205 (dko_4 _)
theorem d_Wa_remove_206 : decode b_Wa_remove 206 = .ok (.iadd, 1) := dk_0 a_Wa_remove_206 (dko_96 _)
theorem d_Wa_remove_207 : decode b_Wa_remove 207 = .ok (.iaload, 1) := dk_0 a_Wa_remove_207 (dko_46 _)
theorem d_Wa_remove_208 : decode b_Wa_remove 208 = .ok (.iastore, 1) := dk_0 a_Wa_remove_208 (dko_79 _)
theorem d_Wa_remove_209 : decode b_Wa_remove 209 = .ok (.aload_n 0, 1) := dk_0 a_Wa_remove_209 (dko_42 _)
theorem d_Wa_remove_210 : decode b_Wa_remove 210 = .ok (.getfield 18, 3) := dk_U2 a_Wa_remove_210 (dko_180 _) rfl
theorem d_Wa_remove_213 : decode b_Wa_remove 213 = .ok (.iload 5, 2) := dk_U1 a_Wa_remove_213 (dko_21 _) rfl
theorem d_Wa_remove_215 : decode b_Wa_remove 215 = .ok (.aload_n 0, 1) := dk_0 a_Wa_remove_215 (dko_42 _)
theorem d_Wa_remove_216 : decode b_Wa_remove 216 = .ok (.getfield 18, 3) := dk_U2 a_Wa_remove_216 (dko_180 _) rfl
theorem d_Wa_remove_219 : decode b_Wa_remove 219 = .ok (.iload 5, 2) := dk_U1 a_Wa_remove_219 (dko_21 _) rfl
theorem d_Wa_remove_221 : decode b_Wa_remove 221 = .ok (.iconst 1, 1) := dk_0 a_Wa_remove_221 (dko_4 _)
theorem d_Wa_remove_222 : decode b_Wa_remove 222 = .ok (.iadd, 1) := dk_0 a_Wa_remove_222 (dko_96 _)
theorem d_Wa_remove_223 : decode b_Wa_remove 223 = .ok (.iaload, 1) := dk_0 a_Wa_remove_223 (dko_46 _)
theorem d_Wa_remove_224 : decode b_Wa_remove 224 = .ok (.iastore, 1) := dk_0 a_Wa_remove_224 (dko_79 _)
theorem d_Wa_remove_225 : decode b_Wa_remove 225 = .ok (.aload_n 0, 1) := dk_0 a_Wa_remove_225 (dko_42 _)
theorem d_Wa_remove_226 : decode b_Wa_remove 226 = .ok (.getfield 21, 3) := dk_U2 a_Wa_remove_226 (dko_180 _) rfl
theorem d_Wa_remove_229 : decode b_Wa_remove 229 = .ok (.iload 5, 2) := dk_U1 a_Wa_remove_229 (dko_21 _) rfl
theorem d_Wa_remove_231 : decode b_Wa_remove 231 = .ok (.aload_n 0, 1) := dk_0 a_Wa_remove_231 (dko_42 _)
theorem d_Wa_remove_232 : decode b_Wa_remove 232 = .ok (.getfield 21, 3) := dk_U2 a_Wa_remove_232 (dko_180 _) rfl
theorem d_Wa_remove_235 : decode b_Wa_remove 235 = .ok (.iload 5, 2) := dk_U1 a_Wa_remove_235 (dko_21 _) rfl
theorem d_Wa_remove_237 : decode b_Wa_remove 237 = .ok (.iconst 1, 1) := dk_0 a_Wa_remove_237 (dko_4 _)
theorem d_Wa_remove_238 : decode b_Wa_remove 238 = .ok (.iadd, 1) := dk_0 a_Wa_remove_238 (dko_96 _)
theorem d_Wa_remove_239 : decode b_Wa_remove 239 = .ok (.iaload, 1) := dk_0 a_Wa_remove_239 (dko_46 _)
theorem d_Wa_remove_240 : decode b_Wa_remove 240 = .ok (.iastore, 1) := dk_0 a_Wa_remove_240 (dko_79 _)
theorem d_Wa_remove_241 : decode b_Wa_remove 241 = .ok (.aload_n 0, 1) := dk_0 a_Wa_remove_241 (dko_42 _)
theorem d_Wa_remove_242 : decode b_Wa_remove 242 = .ok (.getfield 24, 3) := dk_U2 a_Wa_remove_242 (dko_180 _) rfl
theorem d_Wa_remove_245 : decode b_Wa_remove 245 = .ok (.iload 5, 2) := dk_U1 a_Wa_remove_245 (dko_21 _) rfl
theorem d_Wa_remove_247 : decode b_Wa_remove 247 = .ok (.aload_n 0, 1) := dk_0 a_Wa_remove_247 (dko_42 _)
theorem d_Wa_remove_248 : decode b_Wa_remove 248 = .ok (.getfield 24, 3) := dk_U2 a_Wa_remove_248 (dko_180 _) rfl
theorem d_Wa_remove_251 : decode b_Wa_remove 251 = .ok (.iload 5, 2) := dk_U1 a_Wa_remove_251 (dko_21 _) rfl
theorem d_Wa_remove_253 : decode b_Wa_remove 253 = .ok (.iconst 1, 1) := dk_0 a_Wa_remove_253 (dko_4 _)
theorem d_Wa_remove_254 : decode b_Wa_remove 254 = .ok (.iadd, 1) := dk_0 a_Wa_remove_254 (dko_96 _)
theorem d_Wa_remove_255 : decode b_Wa_remove 255 = .ok (.iaload, 1) := dk_0 a_Wa_remove_255 (dko_46 _)
theorem d_Wa_remove_256 : decode b_Wa_remove 256 = .ok (.iastore, 1) := dk_0 a_Wa_remove_256 (dko_79 _)
theorem d_Wa_remove_257 : decode b_Wa_remove 257 = .ok (.aload_n 0, 1) := dk_0 a_Wa_remove_257 (dko_42 _)
theorem d_Wa_remove_258 : decode b_Wa_remove 258 = .ok (.getfield 27, 3) := dk_U2 a_Wa_remove_258 (dko_180 _) rfl
theorem d_Wa_remove_261 : decode b_Wa_remove 261 = .ok (.iload 5, 2) := dk_U1 a_Wa_remove_261 (dko_21 _) rfl
theorem d_Wa_remove_263 : decode b_Wa_remove 263 = .ok (.aload_n 0, 1) := dk_0 a_Wa_remove_263 (dko_42 _)
theorem d_Wa_remove_264 : decode b_Wa_remove 264 = .ok (.getfield 27, 3) := dk_U2 a_Wa_remove_264 (dko_180 _) rfl
theorem d_Wa_remove_267 : decode b_Wa_remove 267 = .ok (.iload 5, 2) := dk_U1 a_Wa_remove_267 (dko_21 _) rfl
theorem d_Wa_remove_269 : decode b_Wa_remove 269 = .ok (.iconst 1, 1) := dk_0 a_Wa_remove_269 (dko_4 _)
theorem d_Wa_remove_270 : decode b_Wa_remove 270 = .ok (.iadd, 1) := dk_0 a_Wa_remove_270 (dko_96 _)
theorem d_Wa_remove_271 : decode b_Wa_remove 271 = .ok (.iaload, 1) := dk_0 a_Wa_remove_271 (dko_46 _)
theorem d_Wa_remove_272 : decode b_Wa_remove 272 = .ok (.iastore, 1) := dk_0 a_Wa_remove_272 (dko_79 _)
theorem d_Wa_remove_273 : decode b_Wa_remove 273 = .ok (.aload_n 0, 1) := dk_0 a_Wa_remove_273 (dko_42 _)
theorem d_Wa_remove_274 : decode b_Wa_remove 274 = .ok (.getfield 30, 3) := dk_U2 a_Wa_remove_274 (dko_180 _) rfl
theorem d_Wa_remove_277 : decode b_Wa_remove 277 = .ok (.iload 5, 2) := dk_U1 a_Wa_remove_277 (dko_21 _) rfl
theorem d_Wa_remove_279 : decode b_Wa_remove 279 = .ok (.aload_n 0, 1) := dk_0 a_Wa_remove_279 (dko_42 _)
theorem d_Wa_remove_280 : decode b_Wa_remove 280 = .ok (.getfield 30, 3) := dk_U2 a_Wa_remove_280 (dko_180 _) rfl
theorem d_Wa_remove_283 : decode b_Wa_remove 283 = .ok (.iload 5, 2) := dk_U1 a_Wa_remove_283 (dko_21 _) rfl
theorem d_Wa_remove_285 : decode b_Wa_remove 285 = .ok (.iconst 1, 1) := dk_0 a_Wa_remove_285 (dko_4 _)
theorem d_Wa_remove_286 : decode b_Wa_remove 286 = .ok (.iadd, 1) := dk_0 a_Wa_remove_286 (dko_96 _)
theorem d_Wa_remove_287 : decode b_Wa_remove 287 = .ok (.iaload, 1) := dk_0 a_Wa_remove_287 (dko_46 _)
theorem d_Wa_remove_288 : decode b_Wa_remove 288 = .ok (.iastore, 1) := dk_0 a_Wa_remove_288 (dko_79 _)
theorem d_Wa_remove_289 : decode b_Wa_remove 289 = .ok (.iinc 5 1, 3) := dk_US a_Wa_remove_289 (dko_132 _) (by decide +kernel)
theorem d_Wa_remove_292 : decode b_Wa_remove 292 = .ok (.goto (-124), 3) := dk_S2 a_Wa_remove_292 (dko_167 _) (by decide +kernel)
theorem d_Wa_remove_295 : decode b_Wa_remove 295 = .ok (.return_, 1) := dk_0 a_Wa_remove_295 (dko_177 _)
set_option maxHeartbeats 4000000 in
set_option maxRecDepth 100000 in
theorem ok_Wa_remove (pc : Nat) : OpS mt mi_Wa_remove pc (cs_Wa_remove pc) := (os_n (os_n (os_n (os_n (os_n (os_n (os_n (os_l (so_aload_n d_Wa_remove_0 rfl)) (os_l (so_get (C := R_Wa) (T := F_Wa) (N := 18) (j := 0) in_Wa rfl (by decide) mw_217 d_Wa_remove_1))) (os_n (os_l (so_get (C := R_St) (T := F_St) (N := 12) (j := 0) in_St rfl (by decide) mw_152 d_Wa_remove_4)) (os_n (os_l (so_astore_n d_Wa_remove_7 rfl (by decide))) (os_l (so_aload_n d_Wa_remove_8 rfl))))) (os_n (os_n (os_l (so_get (C := R_Wa) (T := F_Wa) (N := 18) (j := 7) in_Wa rfl (by decide) mw_225 d_Wa_remove_9)) (os_l (so_iload_n d_Wa_remove_12 rfl))) (os_n (os_l (so_iaload d_Wa_remove_13)) (os_n (os_l (so_istore d_Wa_remove_14 (by decide))) (os_l (so_iconst d_Wa_remove_16 (by decide))))))) (os_n (os_n (os_n (os_l (so_istore d_Wa_remove_17 (by decide))) (os_l (so_iload d_Wa_remove_19))) (os_n (os_l (so_aload_n d_Wa_remove_21 rfl)) (os_n (os_l (so_get (C := R_Wa) (T := F_Wa) (N := 18) (j := 6) in_Wa rfl (by decide) mw_224 d_Wa_remove_22)) (os_l (so_iload_n d_Wa_remove_25 rfl))))) (os_n (os_n (os_l (so_iaload d_Wa_remove_26)) (os_n (os_l (so_icge d_Wa_remove_27 (by decide))) (os_l (so_iload d_Wa_remove_30)))) (os_n (os_l (so_iflt d_Wa_remove_32 (by decide))) (os_n (os_l (so_aload_n d_Wa_remove_35 rfl)) (os_l (so_get (C := R_Wa) (T := F_Wa) (N := 18) (j := 11) in_Wa rfl (by decide) mw_229 d_Wa_remove_36))))))) (os_n (os_n (os_n (os_n (os_l (so_iload d_Wa_remove_39)) (os_l (so_iconst d_Wa_remove_41 (by decide)))) (os_n (os_l (so_bastore d_Wa_remove_42)) (os_n (os_l (so_aload_n d_Wa_remove_43 rfl)) (os_l (so_get (C := R_Wa) (T := F_Wa) (N := 18) (j := 10) in_Wa rfl (by decide) mw_228 d_Wa_remove_44))))) (os_n (os_n (os_l (so_iload d_Wa_remove_47)) (os_l (so_iaload d_Wa_remove_49))) (os_n (os_l (so_iflt d_Wa_remove_50 (by decide))) (os_n (os_l (so_aload_n d_Wa_remove_53 rfl)) (os_l (so_get (C := R_Pl) (T := F_Pl) (N := 12) (j := 6) in_Pl rfl (by decide) mw_110 d_Wa_remove_54)))))) (os_n (os_n (os_n (os_l (so_aload_n d_Wa_remove_57 rfl)) (os_l (so_get (C := R_Wa) (T := F_Wa) (N := 18) (j := 9) in_Wa rfl (by decide) mw_227 d_Wa_remove_58))) (os_n (os_l (so_iload d_Wa_remove_61)) (os_n (os_l (so_iaload d_Wa_remove_63)) (os_l (so_iaload d_Wa_remove_64))))) (os_n (os_n (os_l (so_istore d_Wa_remove_65 (by decide))) (os_n (os_l (so_aload_n d_Wa_remove_67 rfl)) (os_l (so_get (C := R_Wa) (T := F_Wa) (N := 18) (j := 12) in_Wa rfl (by decide) mw_230 d_Wa_remove_68)))) (os_n (os_l (so_iload d_Wa_remove_71)) (os_n (os_l (so_dup2 d_Wa_remove_73)) (os_l (so_iaload d_Wa_remove_74)))))))) (os_n (os_n (os_n (os_n (os_n (os_l (so_iconst d_Wa_remove_75 (by decide))) (os_l (so_isub d_Wa_remove_76))) (os_n (os_l (so_iastore d_Wa_remove_77)) (os_n (os_l (so_aload_n d_Wa_remove_78 rfl)) (os_l (so_get (C := R_Wa) (T := F_Wa) (N := 18) (j := 12) in_Wa rfl (by decide) mw_230 d_Wa_remove_79))))) (os_n (os_n (os_l (so_iload d_Wa_remove_82)) (os_l (so_iaload d_Wa_remove_84))) (os_n (os_l (so_ifne d_Wa_remove_85 (by decide))) (os_n (os_l (so_aload_n d_Wa_remove_88 rfl)) (os_l (so_get (C := R_Pl) (T := F_Pl) (N := 12) (j := 2) in_Pl rfl (by decide) mw_99 d_Wa_remove_89)))))) (os_n (os_n (os_n (os_l (so_iload d_Wa_remove_92)) (os_l (so_iaload d_Wa_remove_94))) (os_n (os_l (so_bipush d_Wa_remove_95 (by decide))) (os_n (os_l (so_iceq d_Wa_remove_97 (by decide))) (os_l (so_aload_n d_Wa_remove_100 rfl))))) (os_n (os_n (os_l (so_get (C := R_Wa) (T := F_Wa) (N := 18) (j := 0) in_Wa rfl (by decide) mw_217 d_Wa_remove_101)) (os_n (os_l (so_get (C := R_St) (T := F_St) (N := 12) (j := 2) in_St rfl (by decide) mw_160 d_Wa_remove_104)) (os_l (so_iload d_Wa_remove_107)))) (os_n (os_l (so_iload_n d_Wa_remove_109 rfl)) (os_n (os_l (so_ifeq d_Wa_remove_110 (by decide))) (os_l (so_aload_n d_Wa_remove_113 rfl))))))) (os_n (os_n (os_n (os_n (os_l (so_get (C := R_Wa) (T := F_Wa) (N := 18) (j := 16) in_Wa rfl (by decide) mw_236 d_Wa_remove_114)) (os_l (so_iload d_Wa_remove_117))) (os_n (os_l (so_iaload d_Wa_remove_119)) (os_n (os_l (so_goto d_Wa_remove_120 (by decide))) (os_l (so_aload_n d_Wa_remove_123 rfl))))) (os_n (os_n (os_l (so_get (C := R_Pl) (T := F_Pl) (N := 12) (j := 2) in_Pl rfl (by decide) mw_99 d_Wa_remove_124)) (os_l (so_iload d_Wa_remove_127))) (os_n (os_l (so_iaload d_Wa_remove_129)) (os_n (os_l (so_iconst d_Wa_remove_130 (by decide))) (os_l (so_icne d_Wa_remove_131 (by decide))))))) (os_n (os_n (os_n (os_l (so_iconst d_Wa_remove_134 (by decide))) (os_l (so_goto d_Wa_remove_135 (by decide)))) (os_n (os_l (so_iconst d_Wa_remove_138 (by decide))) (os_n (os_l (so_iastore d_Wa_remove_139)) (os_l (so_aload_n d_Wa_remove_140 rfl))))) (os_n (os_n (os_l (so_get (C := R_Wa) (T := F_Wa) (N := 18) (j := 10) in_Wa rfl (by decide) mw_228 d_Wa_remove_141)) (os_n (os_l (so_iload d_Wa_remove_144)) (os_l (so_iaload d_Wa_remove_146)))) (os_n (os_l (so_istore d_Wa_remove_147 (by decide))) (os_n (os_l (so_iinc d_Wa_remove_149 (by decide) (by decide))) (os_l (so_goto d_Wa_remove_152 (by decide)))))))))) (os_n (os_n (os_n (os_n (os_n (os_n (os_l (so_aload_n d_Wa_remove_155 rfl)) (os_l (so_dup d_Wa_remove_156))) (os_n (os_l (so_get (C := R_Wa) (T := F_Wa) (N := 18) (j := 1) in_Wa rfl (by decide) mw_218 d_Wa_remove_157)) (os_n (os_l (so_iconst d_Wa_remove_160 (by decide))) (os_l (so_isub d_Wa_remove_161))))) (os_n (os_n (os_l (so_putI (C := R_Wa) (T := F_Wa) (N := 18) (j := 1) in_Wa t_Wa_ok n_Wa rfl (by decide) mw_218 rfl (by decide +kernel) d_Wa_remove_162)) (os_l (so_iload_n d_Wa_remove_165 rfl))) (os_n (os_l (so_istore d_Wa_remove_166 (by decide))) (os_n (os_l (so_iload d_Wa_remove_168)) (os_l (so_aload_n d_Wa_remove_170 rfl)))))) (os_n (os_n (os_n (os_l (so_get (C := R_Wa) (T := F_Wa) (N := 18) (j := 1) in_Wa rfl (by decide) mw_218 d_Wa_remove_171)) (os_l (so_icge d_Wa_remove_174 (by decide)))) (os_n (os_l (so_aload_n d_Wa_remove_177 rfl)) (os_n (os_l (so_get (C := R_Wa) (T := F_Wa) (N := 18) (j := 2) in_Wa rfl (by decide) mw_220 d_Wa_remove_178)) (os_l (so_iload d_Wa_remove_181))))) (os_n (os_n (os_l (so_aload_n d_Wa_remove_183 rfl)) (os_n (os_l (so_get (C := R_Wa) (T := F_Wa) (N := 18) (j := 2) in_Wa rfl (by decide) mw_220 d_Wa_remove_184)) (os_l (so_iload d_Wa_remove_187)))) (os_n (os_l (so_iconst d_Wa_remove_189 (by decide))) (os_n (os_l (so_iadd d_Wa_remove_190)) (os_l (so_iaload d_Wa_remove_191))))))) (os_n (os_n (os_n (os_n (os_l (so_iastore d_Wa_remove_192)) (os_l (so_aload_n d_Wa_remove_193 rfl))) (os_n (os_l (so_get (C := R_Wa) (T := F_Wa) (N := 18) (j := 3) in_Wa rfl (by decide) mw_221 d_Wa_remove_194)) (os_n (os_l (so_iload d_Wa_remove_197)) (os_l (so_aload_n d_Wa_remove_199 rfl))))) (os_n (os_n (os_l (so_get (C := R_Wa) (T := F_Wa) (N := 18) (j := 3) in_Wa rfl (by decide) mw_221 d_Wa_remove_200)) (os_l (so_iload d_Wa_remove_203))) (os_n (os_l (so_iconst d_Wa_remove_205 (by decide))) (os_n (os_l (so_iadd d_Wa_remove_206)) (os_l (so_iaload d_Wa_remove_207)))))) (os_n (os_n (os_n (os_l (so_iastore d_Wa_remove_208)) (os_l (so_aload_n d_Wa_remove_209 rfl))) (os_n (os_l (so_get (C := R_Wa) (T := F_Wa) (N := 18) (j := 4) in_Wa rfl (by decide) mw_222 d_Wa_remove_210)) (os_n (os_l (so_iload d_Wa_remove_213)) (os_l (so_aload_n d_Wa_remove_215 rfl))))) (os_n (os_n (os_l (so_get (C := R_Wa) (T := F_Wa) (N := 18) (j := 4) in_Wa rfl (by decide) mw_222 d_Wa_remove_216)) (os_n (os_l (so_iload d_Wa_remove_219)) (os_l (so_iconst d_Wa_remove_221 (by decide))))) (os_n (os_l (so_iadd d_Wa_remove_222)) (os_n (os_l (so_iaload d_Wa_remove_223)) (os_l (so_iastore d_Wa_remove_224)))))))) (os_n (os_n (os_n (os_n (os_n (os_l (so_aload_n d_Wa_remove_225 rfl)) (os_l (so_get (C := R_Wa) (T := F_Wa) (N := 18) (j := 5) in_Wa rfl (by decide) mw_223 d_Wa_remove_226))) (os_n (os_l (so_iload d_Wa_remove_229)) (os_n (os_l (so_aload_n d_Wa_remove_231 rfl)) (os_l (so_get (C := R_Wa) (T := F_Wa) (N := 18) (j := 5) in_Wa rfl (by decide) mw_223 d_Wa_remove_232))))) (os_n (os_n (os_l (so_iload d_Wa_remove_235)) (os_l (so_iconst d_Wa_remove_237 (by decide)))) (os_n (os_l (so_iadd d_Wa_remove_238)) (os_n (os_l (so_iaload d_Wa_remove_239)) (os_l (so_iastore d_Wa_remove_240)))))) (os_n (os_n (os_n (os_l (so_aload_n d_Wa_remove_241 rfl)) (os_l (so_get (C := R_Wa) (T := F_Wa) (N := 18) (j := 6) in_Wa rfl (by decide) mw_224 d_Wa_remove_242))) (os_n (os_l (so_iload d_Wa_remove_245)) (os_n (os_l (so_aload_n d_Wa_remove_247 rfl)) (os_l (so_get (C := R_Wa) (T := F_Wa) (N := 18) (j := 6) in_Wa rfl (by decide) mw_224 d_Wa_remove_248))))) (os_n (os_n (os_l (so_iload d_Wa_remove_251)) (os_n (os_l (so_iconst d_Wa_remove_253 (by decide))) (os_l (so_iadd d_Wa_remove_254)))) (os_n (os_l (so_iaload d_Wa_remove_255)) (os_n (os_l (so_iastore d_Wa_remove_256)) (os_l (so_aload_n d_Wa_remove_257 rfl))))))) (os_n (os_n (os_n (os_n (os_l (so_get (C := R_Wa) (T := F_Wa) (N := 18) (j := 7) in_Wa rfl (by decide) mw_225 d_Wa_remove_258)) (os_l (so_iload d_Wa_remove_261))) (os_n (os_l (so_aload_n d_Wa_remove_263 rfl)) (os_n (os_l (so_get (C := R_Wa) (T := F_Wa) (N := 18) (j := 7) in_Wa rfl (by decide) mw_225 d_Wa_remove_264)) (os_l (so_iload d_Wa_remove_267))))) (os_n (os_n (os_l (so_iconst d_Wa_remove_269 (by decide))) (os_n (os_l (so_iadd d_Wa_remove_270)) (os_l (so_iaload d_Wa_remove_271)))) (os_n (os_l (so_iastore d_Wa_remove_272)) (os_n (os_l (so_aload_n d_Wa_remove_273 rfl)) (os_l (so_get (C := R_Wa) (T := F_Wa) (N := 18) (j := 8) in_Wa rfl (by decide) mw_226 d_Wa_remove_274)))))) (os_n (os_n (os_n (os_l (so_iload d_Wa_remove_277)) (os_l (so_aload_n d_Wa_remove_279 rfl))) (os_n (os_l (so_get (C := R_Wa) (T := F_Wa) (N := 18) (j := 8) in_Wa rfl (by decide) mw_226 d_Wa_remove_280)) (os_n (os_l (so_iload d_Wa_remove_283)) (os_l (so_iconst d_Wa_remove_285 (by decide)))))) (os_n (os_n (os_l (so_iadd d_Wa_remove_286)) (os_n (os_l (so_iaload d_Wa_remove_287)) (os_l (so_iastore d_Wa_remove_288)))) (os_n (os_l (so_iinc d_Wa_remove_289 (by decide) (by decide))) (os_n (os_l (so_goto d_Wa_remove_292 (by decide))) (os_l (so_return rfl d_Wa_remove_295))))))))))
