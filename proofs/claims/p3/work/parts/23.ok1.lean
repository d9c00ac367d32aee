abbrev t_Mo_build_236 : List UInt8 := 177 :: []
abbrev t_Mo_build_233 : List UInt8 := 181 :: 1 :: 25 :: t_Mo_build_236
abbrev t_Mo_build_232 : List UInt8 := 96 :: t_Mo_build_233
abbrev t_Mo_build_231 : List UInt8 := 4 :: t_Mo_build_232
abbrev t_Mo_build_228 : List UInt8 := 180 :: 1 :: 25 :: t_Mo_build_231
abbrev t_Mo_build_227 : List UInt8 := 89 :: t_Mo_build_228
abbrev t_Mo_build_226 : List UInt8 := 42 :: t_Mo_build_227
abbrev t_Mo_build_223 : List UInt8 := 167 :: 255 :: 186 :: t_Mo_build_226
abbrev t_Mo_build_220 : List UInt8 := 132 :: 2 :: 1 :: t_Mo_build_223
abbrev t_Mo_build_219 : List UInt8 := 79 :: t_Mo_build_220
abbrev t_Mo_build_218 : List UInt8 := 96 :: t_Mo_build_219
abbrev t_Mo_build_217 : List UInt8 := 4 :: t_Mo_build_218
abbrev t_Mo_build_216 : List UInt8 := 46 :: t_Mo_build_217
abbrev t_Mo_build_215 : List UInt8 := 92 :: t_Mo_build_216
abbrev t_Mo_build_214 : List UInt8 := 29 :: t_Mo_build_215
abbrev t_Mo_build_211 : List UInt8 := 180 :: 0 :: 43 :: t_Mo_build_214
abbrev t_Mo_build_210 : List UInt8 := 42 :: t_Mo_build_211
abbrev t_Mo_build_207 : List UInt8 := 155 :: 0 :: 13 :: t_Mo_build_210
abbrev t_Mo_build_206 : List UInt8 := 29 :: t_Mo_build_207
abbrev t_Mo_build_205 : List UInt8 := 79 :: t_Mo_build_206
abbrev t_Mo_build_204 : List UInt8 := 46 :: t_Mo_build_205
abbrev t_Mo_build_203 : List UInt8 := 29 :: t_Mo_build_204
abbrev t_Mo_build_200 : List UInt8 := 180 :: 0 :: 43 :: t_Mo_build_203
abbrev t_Mo_build_199 : List UInt8 := 42 :: t_Mo_build_200
abbrev t_Mo_build_196 : List UInt8 := 167 :: 0 :: 9 :: t_Mo_build_199
abbrev t_Mo_build_195 : List UInt8 := 2 :: t_Mo_build_196
abbrev t_Mo_build_192 : List UInt8 := 156 :: 0 :: 7 :: t_Mo_build_195
abbrev t_Mo_build_191 : List UInt8 := 29 :: t_Mo_build_192
abbrev t_Mo_build_190 : List UInt8 := 96 :: t_Mo_build_191
abbrev t_Mo_build_189 : List UInt8 := 28 :: t_Mo_build_190
abbrev t_Mo_build_188 : List UInt8 := 104 :: t_Mo_build_189
abbrev t_Mo_build_185 : List UInt8 := 180 :: 1 :: 25 :: t_Mo_build_188
abbrev t_Mo_build_184 : List UInt8 := 42 :: t_Mo_build_185
abbrev t_Mo_build_183 : List UInt8 := 5 :: t_Mo_build_184
abbrev t_Mo_build_180 : List UInt8 := 180 :: 0 :: 52 :: t_Mo_build_183
abbrev t_Mo_build_179 : List UInt8 := 42 :: t_Mo_build_180
abbrev t_Mo_build_178 : List UInt8 := 79 :: t_Mo_build_179
abbrev t_Mo_build_177 : List UInt8 := 29 :: t_Mo_build_178
abbrev t_Mo_build_176 : List UInt8 := 96 :: t_Mo_build_177
abbrev t_Mo_build_175 : List UInt8 := 28 :: t_Mo_build_176
abbrev t_Mo_build_174 : List UInt8 := 104 :: t_Mo_build_175
abbrev t_Mo_build_171 : List UInt8 := 180 :: 1 :: 25 :: t_Mo_build_174
abbrev t_Mo_build_170 : List UInt8 := 42 :: t_Mo_build_171
abbrev t_Mo_build_169 : List UInt8 := 5 :: t_Mo_build_170
abbrev t_Mo_build_166 : List UInt8 := 180 :: 0 :: 49 :: t_Mo_build_169
abbrev t_Mo_build_165 : List UInt8 := 42 :: t_Mo_build_166
abbrev t_Mo_build_164 : List UInt8 := 62 :: t_Mo_build_165
abbrev t_Mo_build_163 : List UInt8 := 46 :: t_Mo_build_164
abbrev t_Mo_build_162 : List UInt8 := 28 :: t_Mo_build_163
abbrev t_Mo_build_159 : List UInt8 := 180 :: 0 :: 74 :: t_Mo_build_162
abbrev t_Mo_build_158 : List UInt8 := 42 :: t_Mo_build_159
abbrev t_Mo_build_155 : List UInt8 := 162 :: 0 :: 71 :: t_Mo_build_158
abbrev t_Mo_build_154 : List UInt8 := 5 :: t_Mo_build_155
abbrev t_Mo_build_153 : List UInt8 := 28 :: t_Mo_build_154
abbrev t_Mo_build_152 : List UInt8 := 61 :: t_Mo_build_153
abbrev t_Mo_build_151 : List UInt8 := 3 :: t_Mo_build_152
abbrev t_Mo_build_148 : List UInt8 := 167 :: 255 :: 230 :: t_Mo_build_151
abbrev t_Mo_build_145 : List UInt8 := 132 :: 2 :: 1 :: t_Mo_build_148
abbrev t_Mo_build_144 : List UInt8 := 84 :: t_Mo_build_145
abbrev t_Mo_build_143 : List UInt8 := 3 :: t_Mo_build_144
abbrev t_Mo_build_142 : List UInt8 := 96 :: t_Mo_build_143
abbrev t_Mo_build_141 : List UInt8 := 28 :: t_Mo_build_142
abbrev t_Mo_build_140 : List UInt8 := 104 :: t_Mo_build_141
abbrev t_Mo_build_137 : List UInt8 := 180 :: 1 :: 25 :: t_Mo_build_140
abbrev t_Mo_build_136 : List UInt8 := 42 :: t_Mo_build_137
abbrev t_Mo_build_133 : List UInt8 := 17 :: 0 :: 200 :: t_Mo_build_136
abbrev t_Mo_build_130 : List UInt8 := 180 :: 0 :: 55 :: t_Mo_build_133
abbrev t_Mo_build_129 : List UInt8 := 42 :: t_Mo_build_130
abbrev t_Mo_build_126 : List UInt8 := 162 :: 0 :: 25 :: t_Mo_build_129
abbrev t_Mo_build_123 : List UInt8 := 17 :: 0 :: 200 :: t_Mo_build_126
abbrev t_Mo_build_122 : List UInt8 := 28 :: t_Mo_build_123
abbrev t_Mo_build_121 : List UInt8 := 61 :: t_Mo_build_122
abbrev t_Mo_build_120 : List UInt8 := 3 :: t_Mo_build_121
abbrev t_Mo_build_119 : List UInt8 := 79 :: t_Mo_build_120
abbrev t_Mo_build_118 : List UInt8 := 46 :: t_Mo_build_119
abbrev t_Mo_build_117 : List UInt8 := 5 :: t_Mo_build_118
abbrev t_Mo_build_114 : List UInt8 := 180 :: 0 :: 74 :: t_Mo_build_117
abbrev t_Mo_build_113 : List UInt8 := 42 :: t_Mo_build_114
abbrev t_Mo_build_110 : List UInt8 := 180 :: 1 :: 25 :: t_Mo_build_113
abbrev t_Mo_build_109 : List UInt8 := 42 :: t_Mo_build_110
abbrev t_Mo_build_106 : List UInt8 := 180 :: 0 :: 46 :: t_Mo_build_109
abbrev t_Mo_build_105 : List UInt8 := 42 :: t_Mo_build_106
abbrev t_Mo_build_104 : List UInt8 := 177 :: t_Mo_build_105
abbrev t_Mo_build_101 : List UInt8 := 181 :: 1 :: 22 :: t_Mo_build_104
abbrev t_Mo_build_100 : List UInt8 := 96 :: t_Mo_build_101
abbrev t_Mo_build_99 : List UInt8 := 4 :: t_Mo_build_100
abbrev t_Mo_build_96 : List UInt8 := 180 :: 1 :: 22 :: t_Mo_build_99
abbrev t_Mo_build_95 : List UInt8 := 89 :: t_Mo_build_96
abbrev t_Mo_build_94 : List UInt8 := 42 :: t_Mo_build_95
abbrev t_Mo_build_93 : List UInt8 := 79 :: t_Mo_build_94
abbrev t_Mo_build_92 : List UInt8 := 3 :: t_Mo_build_93
abbrev t_Mo_build_89 : List UInt8 := 180 :: 1 :: 22 :: t_Mo_build_92
abbrev t_Mo_build_88 : List UInt8 := 42 :: t_Mo_build_89
abbrev t_Mo_build_85 : List UInt8 := 180 :: 0 :: 43 :: t_Mo_build_88
abbrev t_Mo_build_84 : List UInt8 := 42 :: t_Mo_build_85
abbrev t_Mo_build_83 : List UInt8 := 79 :: t_Mo_build_84
abbrev t_Mo_build_82 : List UInt8 := 3 :: t_Mo_build_83
abbrev t_Mo_build_79 : List UInt8 := 180 :: 1 :: 22 :: t_Mo_build_82
abbrev t_Mo_build_78 : List UInt8 := 42 :: t_Mo_build_79
abbrev t_Mo_build_75 : List UInt8 := 180 :: 0 :: 40 :: t_Mo_build_78
abbrev t_Mo_build_74 : List UInt8 := 42 :: t_Mo_build_75
abbrev t_Mo_build_73 : List UInt8 := 79 :: t_Mo_build_74
abbrev t_Mo_build_72 : List UInt8 := 3 :: t_Mo_build_73
abbrev t_Mo_build_69 : List UInt8 := 180 :: 1 :: 22 :: t_Mo_build_72
abbrev t_Mo_build_68 : List UInt8 := 42 :: t_Mo_build_69
abbrev t_Mo_build_65 : List UInt8 := 180 :: 0 :: 37 :: t_Mo_build_68
abbrev t_Mo_build_64 : List UInt8 := 42 :: t_Mo_build_65
abbrev t_Mo_build_63 : List UInt8 := 79 :: t_Mo_build_64
abbrev t_Mo_build_62 : List UInt8 := 3 :: t_Mo_build_63
abbrev t_Mo_build_59 : List UInt8 := 180 :: 1 :: 22 :: t_Mo_build_62
abbrev t_Mo_build_58 : List UInt8 := 42 :: t_Mo_build_59
abbrev t_Mo_build_55 : List UInt8 := 180 :: 0 :: 34 :: t_Mo_build_58
abbrev t_Mo_build_54 : List UInt8 := 42 :: t_Mo_build_55
abbrev t_Mo_build_53 : List UInt8 := 79 :: t_Mo_build_54
abbrev t_Mo_build_52 : List UInt8 := 3 :: t_Mo_build_53
abbrev t_Mo_build_49 : List UInt8 := 167 :: 0 :: 4 :: t_Mo_build_52
abbrev t_Mo_build_48 : List UInt8 := 46 :: t_Mo_build_49
abbrev t_Mo_build_47 : List UInt8 := 3 :: t_Mo_build_48
abbrev t_Mo_build_44 : List UInt8 := 180 :: 0 :: 74 :: t_Mo_build_47
abbrev t_Mo_build_43 : List UInt8 := 42 :: t_Mo_build_44
abbrev t_Mo_build_40 : List UInt8 := 154 :: 0 :: 12 :: t_Mo_build_43
abbrev t_Mo_build_39 : List UInt8 := 27 :: t_Mo_build_40
abbrev t_Mo_build_36 : List UInt8 := 180 :: 1 :: 22 :: t_Mo_build_39
abbrev t_Mo_build_35 : List UInt8 := 42 :: t_Mo_build_36
abbrev t_Mo_build_32 : List UInt8 := 180 :: 0 :: 31 :: t_Mo_build_35
abbrev t_Mo_build_31 : List UInt8 := 42 :: t_Mo_build_32
abbrev t_Mo_build_30 : List UInt8 := 79 :: t_Mo_build_31
abbrev t_Mo_build_29 : List UInt8 := 27 :: t_Mo_build_30
abbrev t_Mo_build_26 : List UInt8 := 167 :: 0 :: 4 :: t_Mo_build_29
abbrev t_Mo_build_25 : List UInt8 := 96 :: t_Mo_build_26
abbrev t_Mo_build_24 : List UInt8 := 46 :: t_Mo_build_25
abbrev t_Mo_build_23 : List UInt8 := 3 :: t_Mo_build_24
abbrev t_Mo_build_20 : List UInt8 := 180 :: 0 :: 74 :: t_Mo_build_23
abbrev t_Mo_build_19 : List UInt8 := 42 :: t_Mo_build_20
abbrev t_Mo_build_18 : List UInt8 := 5 :: t_Mo_build_19
abbrev t_Mo_build_15 : List UInt8 := 160 :: 0 :: 14 :: t_Mo_build_18
abbrev t_Mo_build_14 : List UInt8 := 5 :: t_Mo_build_15
abbrev t_Mo_build_13 : List UInt8 := 27 :: t_Mo_build_14
abbrev t_Mo_build_10 : List UInt8 := 180 :: 1 :: 22 :: t_Mo_build_13
abbrev t_Mo_build_9 : List UInt8 := 42 :: t_Mo_build_10
abbrev t_Mo_build_6 : List UInt8 := 180 :: 0 :: 27 :: t_Mo_build_9
abbrev t_Mo_build_5 : List UInt8 := 42 :: t_Mo_build_6
abbrev t_Mo_build_2 : List UInt8 := 159 :: 0 :: 103 :: t_Mo_build_5
abbrev t_Mo_build_1 : List UInt8 := 6 :: t_Mo_build_2
abbrev t_Mo_build_0 : List UInt8 := 27 :: t_Mo_build_1
theorem a_Mo_build_0 : dk_at b_Mo_build 0 t_Mo_build_0 := dk_start (by decide +kernel)
theorem a_Mo_build_1 : dk_at b_Mo_build 1 t_Mo_build_1 := dk_go 1 a_Mo_build_0 rfl
theorem a_Mo_build_2 : dk_at b_Mo_build 2 t_Mo_build_2 := dk_go 1 a_Mo_build_1 rfl
theorem a_Mo_build_5 : dk_at b_Mo_build 5 t_Mo_build_5 := dk_go 3 a_Mo_build_2 rfl
theorem a_Mo_build_6 : dk_at b_Mo_build 6 t_Mo_build_6 := dk_go 1 a_Mo_build_5 rfl
theorem a_Mo_build_9 : dk_at b_Mo_build 9 t_Mo_build_9 := dk_go 3 a_Mo_build_6 rfl
theorem a_Mo_build_10 : dk_at b_Mo_build 10 t_Mo_build_10 := dk_go 1 a_Mo_build_9 rfl
theorem a_Mo_build_13 : dk_at b_Mo_build 13 t_Mo_build_13 := dk_go 3 a_Mo_build_10 rfl
theorem a_Mo_build_14 : dk_at b_Mo_build 14 t_Mo_build_14 := dk_go 1 a_Mo_build_13 rfl
theorem a_Mo_build_15 : dk_at b_Mo_build 15 t_Mo_build_15 := dk_go 1 a_Mo_build_14 rfl
theorem a_Mo_build_18 : dk_at b_Mo_build 18 t_Mo_build_18 := dk_go 3 a_Mo_build_15 rfl
theorem a_Mo_build_19 : dk_at b_Mo_build 19 t_Mo_build_19 := dk_go 1 a_Mo_build_18 rfl
theorem a_Mo_build_20 : dk_at b_Mo_build 20 t_Mo_build_20 := dk_go 1 a_Mo_build_19 rfl
theorem a_Mo_build_23 : dk_at b_Mo_build 23 t_Mo_build_23 := dk_go 3 a_Mo_build_20 rfl
theorem a_Mo_build_24 : dk_at b_Mo_build 24 t_Mo_build_24 := dk_go 1 a_Mo_build_23 rfl
theorem a_Mo_build_25 : dk_at b_Mo_build 25 t_Mo_build_25 := dk_go 1 a_Mo_build_24 rfl
theorem a_Mo_build_26 : dk_at b_Mo_build 26 t_Mo_build_26 := dk_go 1 a_Mo_build_25 rfl
theorem a_Mo_build_29 : dk_at b_Mo_build 29 t_Mo_build_29 := dk_go 3 a_Mo_build_26 rfl
theorem a_Mo_build_30 : dk_at b_Mo_build 30 t_Mo_build_30 := dk_go 1 a_Mo_build_29 rfl
theorem a_Mo_build_31 : dk_at b_Mo_build 31 t_Mo_build_31 := dk_go 1 a_Mo_build_30 rfl
theorem a_Mo_build_32 : dk_at b_Mo_build 32 t_Mo_build_32 := dk_go 1 a_Mo_build_31 rfl
theorem a_Mo_build_35 : dk_at b_Mo_build 35 t_Mo_build_35 := dk_go 3 a_Mo_build_32 rfl
theorem a_Mo_build_36 : dk_at b_Mo_build 36 t_Mo_build_36 := dk_go 1 a_Mo_build_35 rfl
theorem a_Mo_build_39 : dk_at b_Mo_build 39 t_Mo_build_39 := dk_go 3 a_Mo_build_36 rfl
theorem a_Mo_build_40 : dk_at b_Mo_build 40 t_Mo_build_40 := dk_go 1 a_Mo_build_39 rfl
theorem a_Mo_build_43 : dk_at b_Mo_build 43 t_Mo_build_43 := dk_go 3 a_Mo_build_40 rfl
theorem a_Mo_build_44 : dk_at b_Mo_build 44 t_Mo_build_44 := dk_go 1 a_Mo_build_43 rfl
theorem a_Mo_build_47 : dk_at b_Mo_build 47 t_Mo_build_47 := dk_go 3 a_Mo_build_44 rfl
theorem a_Mo_build_48 : dk_at b_Mo_build 48 t_Mo_build_48 := dk_go 1 a_Mo_build_47 rfl
theorem a_Mo_build_49 : dk_at b_Mo_build 49 t_Mo_build_49 := dk_go 1 a_Mo_build_48 rfl
theorem a_Mo_build_52 : dk_at b_Mo_build 52 t_Mo_build_52 := dk_go 3 a_Mo_build_49 rfl
theorem a_Mo_build_53 : dk_at b_Mo_build 53 t_Mo_build_53 := dk_go 1 a_Mo_build_52 rfl
theorem a_Mo_build_54 : dk_at b_Mo_build 54 t_Mo_build_54 := dk_go 1 a_Mo_build_53 rfl
theorem a_Mo_build_55 : dk_at b_Mo_build 55 t_Mo_build_55 := dk_go 1 a_Mo_build_54 rfl
theorem a_Mo_build_58 : dk_at b_Mo_build 58 t_Mo_build_58 := dk_go 3 a_Mo_build_55 rfl
theorem a_Mo_build_59 : dk_at b_Mo_build 59 t_Mo_build_59 := dk_go 1 a_Mo_build_58 rfl
theorem a_Mo_build_62 : dk_at b_Mo_build 62 t_Mo_build_62 := dk_go 3 a_Mo_build_59 rfl
theorem a_Mo_build_63 : dk_at b_Mo_build 63 t_Mo_build_63 := dk_go 1 a_Mo_build_62 rfl
theorem a_Mo_build_64 : dk_at b_Mo_build 64 t_Mo_build_64 := dk_go 1 a_Mo_build_63 rfl
theorem a_Mo_build_65 : dk_at b_Mo_build 65 t_Mo_build_65 := dk_go 1 a_Mo_build_64 rfl
theorem a_Mo_build_68 : dk_at b_Mo_build 68 t_Mo_build_68 := dk_go 3 a_Mo_build_65 rfl
theorem a_Mo_build_69 : dk_at b_Mo_build 69 t_Mo_build_69 := dk_go 1 a_Mo_build_68 rfl
theorem a_Mo_build_72 : dk_at b_Mo_build 72 t_Mo_build_72 := dk_go 3 a_Mo_build_69 rfl
theorem a_Mo_build_73 : dk_at b_Mo_build 73 t_Mo_build_73 := dk_go 1 a_Mo_build_72 rfl
theorem a_Mo_build_74 : dk_at b_Mo_build 74 t_Mo_build_74 := dk_go 1 a_Mo_build_73 rfl
theorem a_Mo_build_75 : dk_at b_Mo_build 75 t_Mo_build_75 := dk_go 1 a_Mo_build_74 rfl
theorem a_Mo_build_78 : dk_at b_Mo_build 78 t_Mo_build_78 := dk_go 3 a_Mo_build_75 rfl
theorem a_Mo_build_79 : dk_at b_Mo_build 79 t_Mo_build_79 := dk_go 1 a_Mo_build_78 rfl
theorem a_Mo_build_82 : dk_at b_Mo_build 82 t_Mo_build_82 := dk_go 3 a_Mo_build_79 rfl
theorem a_Mo_build_83 : dk_at b_Mo_build 83 t_Mo_build_83 := dk_go 1 a_Mo_build_82 rfl
theorem a_Mo_build_84 : dk_at b_Mo_build 84 t_Mo_build_84 := dk_go 1 a_Mo_build_83 rfl
theorem a_Mo_build_85 : dk_at b_Mo_build 85 t_Mo_build_85 := dk_go 1 a_Mo_build_84 rfl
theorem a_Mo_build_88 : dk_at b_Mo_build 88 t_Mo_build_88 := dk_go 3 a_Mo_build_85 rfl
theorem a_Mo_build_89 : dk_at b_Mo_build 89 t_Mo_build_89 := dk_go 1 a_Mo_build_88 rfl
theorem a_Mo_build_92 : dk_at b_Mo_build 92 t_Mo_build_92 := dk_go 3 a_Mo_build_89 rfl
theorem a_Mo_build_93 : dk_at b_Mo_build 93 t_Mo_build_93 := dk_go 1 a_Mo_build_92 rfl
theorem a_Mo_build_94 : dk_at b_Mo_build 94 t_Mo_build_94 := dk_go 1 a_Mo_build_93 rfl
theorem a_Mo_build_95 : dk_at b_Mo_build 95 t_Mo_build_95 := dk_go 1 a_Mo_build_94 rfl
theorem a_Mo_build_96 : dk_at b_Mo_build 96 t_Mo_build_96 := dk_go 1 a_Mo_build_95 rfl
theorem a_Mo_build_99 : dk_at b_Mo_build 99 t_Mo_build_99 := dk_go 3 a_Mo_build_96 rfl
theorem a_Mo_build_100 : dk_at b_Mo_build 100 t_Mo_build_100 := dk_go 1 a_Mo_build_99 rfl
theorem a_Mo_build_101 : dk_at b_Mo_build 101 t_Mo_build_101 := dk_go 1 a_Mo_build_100 rfl
theorem a_Mo_build_104 : dk_at b_Mo_build 104 t_Mo_build_104 := dk_go 3 a_Mo_build_101 rfl
theorem a_Mo_build_105 : dk_at b_Mo_build 105 t_Mo_build_105 := dk_go 1 a_Mo_build_104 rfl
theorem a_Mo_build_106 : dk_at b_Mo_build 106 t_Mo_build_106 := dk_go 1 a_Mo_build_105 rfl
theorem a_Mo_build_109 : dk_at b_Mo_build 109 t_Mo_build_109 := dk_go 3 a_Mo_build_106 rfl
theorem a_Mo_build_110 : dk_at b_Mo_build 110 t_Mo_build_110 := dk_go 1 a_Mo_build_109 rfl
theorem a_Mo_build_113 : dk_at b_Mo_build 113 t_Mo_build_113 := dk_go 3 a_Mo_build_110 rfl
theorem a_Mo_build_114 : dk_at b_Mo_build 114 t_Mo_build_114 := dk_go 1 a_Mo_build_113 rfl
theorem a_Mo_build_117 : dk_at b_Mo_build 117 t_Mo_build_117 := dk_go 3 a_Mo_build_114 rfl
theorem a_Mo_build_118 : dk_at b_Mo_build 118 t_Mo_build_118 := dk_go 1 a_Mo_build_117 rfl
theorem a_Mo_build_119 : dk_at b_Mo_build 119 t_Mo_build_119 := dk_go 1 a_Mo_build_118 rfl
theorem a_Mo_build_120 : dk_at b_Mo_build 120 t_Mo_build_120 := dk_go 1 a_Mo_build_119 rfl
theorem a_Mo_build_121 : dk_at b_Mo_build 121 t_Mo_build_121 := dk_go 1 a_Mo_build_120 rfl
theorem a_Mo_build_122 : dk_at b_Mo_build 122 t_Mo_build_122 := dk_go 1 a_Mo_build_121 rfl
theorem a_Mo_build_123 : dk_at b_Mo_build 123 t_Mo_build_123 := dk_go 1 a_Mo_build_122 rfl
theorem a_Mo_build_126 : dk_at b_Mo_build 126 t_Mo_build_126 := dk_go 3 a_Mo_build_123 rfl
theorem a_Mo_build_129 : dk_at b_Mo_build 129 t_Mo_build_129 := dk_go 3 a_Mo_build_126 rfl
theorem a_Mo_build_130 : dk_at b_Mo_build 130 t_Mo_build_130 := dk_go 1 a_Mo_build_129 rfl
theorem a_Mo_build_133 : dk_at b_Mo_build 133 t_Mo_build_133 := dk_go 3 a_Mo_build_130 rfl
theorem a_Mo_build_136 : dk_at b_Mo_build 136 t_Mo_build_136 := dk_go 3 a_Mo_build_133 rfl
theorem a_Mo_build_137 : dk_at b_Mo_build 137 t_Mo_build_137 := dk_go 1 a_Mo_build_136 rfl
theorem a_Mo_build_140 : dk_at b_Mo_build 140 t_Mo_build_140 := dk_go 3 a_Mo_build_137 rfl
theorem a_Mo_build_141 : dk_at b_Mo_build 141 t_Mo_build_141 := dk_go 1 a_Mo_build_140 rfl
theorem a_Mo_build_142 : dk_at b_Mo_build 142 t_Mo_build_142 := dk_go 1 a_Mo_build_141 rfl
theorem a_Mo_build_143 : dk_at b_Mo_build 143 t_Mo_build_143 := dk_go 1 a_Mo_build_142 rfl
theorem a_Mo_build_144 : dk_at b_Mo_build 144 t_Mo_build_144 := dk_go 1 a_Mo_build_143 rfl
theorem a_Mo_build_145 : dk_at b_Mo_build 145 t_Mo_build_145 := dk_go 1 a_Mo_build_144 rfl
theorem a_Mo_build_148 : dk_at b_Mo_build 148 t_Mo_build_148 := dk_go 3 a_Mo_build_145 rfl
theorem a_Mo_build_151 : dk_at b_Mo_build 151 t_Mo_build_151 := dk_go 3 a_Mo_build_148 rfl
theorem a_Mo_build_152 : dk_at b_Mo_build 152 t_Mo_build_152 := dk_go 1 a_Mo_build_151 rfl
theorem a_Mo_build_153 : dk_at b_Mo_build 153 t_Mo_build_153 := dk_go 1 a_Mo_build_152 rfl
theorem a_Mo_build_154 : dk_at b_Mo_build 154 t_Mo_build_154 := dk_go 1 a_Mo_build_153 rfl
theorem a_Mo_build_155 : dk_at b_Mo_build 155 t_Mo_build_155 := dk_go 1 a_Mo_build_154 rfl
theorem a_Mo_build_158 : dk_at b_Mo_build 158 t_Mo_build_158 := dk_go 3 a_Mo_build_155 rfl
theorem a_Mo_build_159 : dk_at b_Mo_build 159 t_Mo_build_159 := dk_go 1 a_Mo_build_158 rfl
theorem a_Mo_build_162 : dk_at b_Mo_build 162 t_Mo_build_162 := dk_go 3 a_Mo_build_159 rfl
theorem a_Mo_build_163 : dk_at b_Mo_build 163 t_Mo_build_163 := dk_go 1 a_Mo_build_162 rfl
theorem a_Mo_build_164 : dk_at b_Mo_build 164 t_Mo_build_164 := dk_go 1 a_Mo_build_163 rfl
theorem a_Mo_build_165 : dk_at b_Mo_build 165 t_Mo_build_165 := dk_go 1 a_Mo_build_164 rfl
theorem a_Mo_build_166 : dk_at b_Mo_build 166 t_Mo_build_166 := dk_go 1 a_Mo_build_165 rfl
theorem a_Mo_build_169 : dk_at b_Mo_build 169 t_Mo_build_169 := dk_go 3 a_Mo_build_166 rfl
theorem a_Mo_build_170 : dk_at b_Mo_build 170 t_Mo_build_170 := dk_go 1 a_Mo_build_169 rfl
theorem a_Mo_build_171 : dk_at b_Mo_build 171 t_Mo_build_171 := dk_go 1 a_Mo_build_170 rfl
theorem a_Mo_build_174 : dk_at b_Mo_build 174 t_Mo_build_174 := dk_go 3 a_Mo_build_171 rfl
theorem a_Mo_build_175 : dk_at b_Mo_build 175 t_Mo_build_175 := dk_go 1 a_Mo_build_174 rfl
theorem a_Mo_build_176 : dk_at b_Mo_build 176 t_Mo_build_176 := dk_go 1 a_Mo_build_175 rfl
theorem a_Mo_build_177 : dk_at b_Mo_build 177 t_Mo_build_177 := dk_go 1 a_Mo_build_176 rfl
theorem a_Mo_build_178 : dk_at b_Mo_build 178 t_Mo_build_178 := dk_go 1 a_Mo_build_177 rfl
theorem a_Mo_build_179 : dk_at b_Mo_build 179 t_Mo_build_179 := dk_go 1 a_Mo_build_178 rfl
theorem a_Mo_build_180 : dk_at b_Mo_build 180 t_Mo_build_180 := dk_go 1 a_Mo_build_179 rfl
theorem a_Mo_build_183 : dk_at b_Mo_build 183 t_Mo_build_183 := dk_go 3 a_Mo_build_180 rfl
theorem a_Mo_build_184 : dk_at b_Mo_build 184 t_Mo_build_184 := dk_go 1 a_Mo_build_183 rfl
theorem a_Mo_build_185 : dk_at b_Mo_build 185 t_Mo_build_185 := dk_go 1 a_Mo_build_184 rfl
theorem a_Mo_build_188 : dk_at b_Mo_build 188 t_Mo_build_188 := dk_go 3 a_Mo_build_185 rfl
theorem a_Mo_build_189 : dk_at b_Mo_build 189 t_Mo_build_189 := dk_go 1 a_Mo_build_188 rfl
theorem a_Mo_build_190 : dk_at b_Mo_build 190 t_Mo_build_190 := dk_go 1 a_Mo_build_189 rfl
theorem a_Mo_build_191 : dk_at b_Mo_build 191 t_Mo_build_191 := dk_go 1 a_Mo_build_190 rfl
theorem a_Mo_build_192 : dk_at b_Mo_build 192 t_Mo_build_192 := dk_go 1 a_Mo_build_191 rfl
theorem a_Mo_build_195 : dk_at b_Mo_build 195 t_Mo_build_195 := dk_go 3 a_Mo_build_192 rfl
theorem a_Mo_build_196 : dk_at b_Mo_build 196 t_Mo_build_196 := dk_go 1 a_Mo_build_195 rfl
theorem a_Mo_build_199 : dk_at b_Mo_build 199 t_Mo_build_199 := dk_go 3 a_Mo_build_196 rfl
theorem a_Mo_build_200 : dk_at b_Mo_build 200 t_Mo_build_200 := dk_go 1 a_Mo_build_199 rfl
theorem a_Mo_build_203 : dk_at b_Mo_build 203 t_Mo_build_203 := dk_go 3 a_Mo_build_200 rfl
theorem a_Mo_build_204 : dk_at b_Mo_build 204 t_Mo_build_204 := dk_go 1 a_Mo_build_203 rfl
theorem a_Mo_build_205 : dk_at b_Mo_build 205 t_Mo_build_205 := dk_go 1 a_Mo_build_204 rfl
theorem a_Mo_build_206 : dk_at b_Mo_build 206 t_Mo_build_206 := dk_go 1 a_Mo_build_205 rfl
theorem a_Mo_build_207 : dk_at b_Mo_build 207 t_Mo_build_207 := dk_go 1 a_Mo_build_206 rfl
theorem a_Mo_build_210 : dk_at b_Mo_build 210 t_Mo_build_210 := dk_go 3 a_Mo_build_207 rfl
theorem a_Mo_build_211 : dk_at b_Mo_build 211 t_Mo_build_211 := dk_go 1 a_Mo_build_210 rfl
theorem a_Mo_build_214 : dk_at b_Mo_build 214 t_Mo_build_214 := dk_go 3 a_Mo_build_211 rfl
theorem a_Mo_build_215 : dk_at b_Mo_build 215 t_Mo_build_215 := dk_go 1 a_Mo_build_214 rfl
theorem a_Mo_build_216 : dk_at b_Mo_build 216 t_Mo_build_216 := dk_go 1 a_Mo_build_215 rfl
theorem a_Mo_build_217 : dk_at b_Mo_build 217 t_Mo_build_217 := dk_go 1 a_Mo_build_216 rfl
theorem a_Mo_build_218 : dk_at b_Mo_build 218 t_Mo_build_218 := dk_go 1 a_Mo_build_217 rfl
theorem a_Mo_build_219 : dk_at b_Mo_build 219 t_Mo_build_219 := dk_go 1 a_Mo_build_218 rfl
theorem a_Mo_build_220 : dk_at b_Mo_build 220 t_Mo_build_220 := dk_go 1 a_Mo_build_219 rfl
theorem a_Mo_build_223 : dk_at b_Mo_build 223 t_Mo_build_223 := dk_go 3 a_Mo_build_220 rfl
theorem a_Mo_build_226 : dk_at b_Mo_build 226 t_Mo_build_226 := dk_go 3 a_Mo_build_223 rfl
theorem a_Mo_build_227 : dk_at b_Mo_build 227 t_Mo_build_227 := dk_go 1 a_Mo_build_226 rfl
theorem a_Mo_build_228 : dk_at b_Mo_build 228 t_Mo_build_228 := dk_go 1 a_Mo_build_227 rfl
theorem a_Mo_build_231 : dk_at b_Mo_build 231 t_Mo_build_231 := dk_go 3 a_Mo_build_228 rfl
theorem a_Mo_build_232 : dk_at b_Mo_build 232 t_Mo_build_232 := dk_go 1 a_Mo_build_231 rfl
theorem a_Mo_build_233 : dk_at b_Mo_build 233 t_Mo_build_233 := dk_go 1 a_Mo_build_232 rfl
theorem a_Mo_build_236 : dk_at b_Mo_build 236 t_Mo_build_236 := dk_go 3 a_Mo_build_233 rfl
theorem d_Mo_build_0 : decode b_Mo_build 0 = .ok (.iload_n 1, 1) := dk_0 a_Mo_build_0 (dko_27 _)
theorem d_Mo_build_1 : decode b_Mo_build 1 = .ok (.iconst 3, 1) := dk_0 a_Mo_build_1 (dko_6 _)
theorem d_Mo_build_2 : decode b_Mo_build 2 = .ok (.if_icmp .eq 103, 3) := dk_S2 a_Mo_build_2 (dko_159 _) (by decide +kernel)
theorem d_Mo_build_5 : decode b_Mo_build 5 = .ok (.aload_n 0, 1) := dk_0 a_Mo_build_5 (dko_42 _)
theorem d_Mo_build_6 : decode b_Mo_build 6 = .ok (.getfield 27, 3) := dk_U2 a_Mo_build_6 (dko_180 _) rfl
theorem d_Mo_build_9 : decode b_Mo_build 9 = .ok (.aload_n 0, 1) := dk_0 a_Mo_build_9 (dko_42 _)
theorem d_Mo_build_10 : decode b_Mo_build 10 = .ok (.getfield 278, 3) := dk_U2 a_Mo_build_10 (dko_180 _) rfl
theorem d_Mo_build_13 : decode b_Mo_build 13 = .ok (.iload_n 1, 1) := dk_0 a_Mo_build_13 (dko_27 _)
theorem d_Mo_build_14 : decode b_Mo_build 14 = .ok (.iconst 2, 1) := dk_0 a_Mo_build_14 (dko_5 _)
theorem d_Mo_build_15 : decode b_Mo_build 15 = .ok (.if_icmp .ne 14, 3) := dk_S2 a_Mo_build_15 (dko_160 _) (by decide +kernel)
theorem d_Mo_build_18 : decode b_Mo_build 18 = .ok (.iconst 2, 1) := dk_0 a_Mo_build_18 (dko_5 _)
theorem d_Mo_build_19 : decode b_Mo_build 19 = .ok (.aload_n 0, 1) := dk_0 a_Mo_build_19 (dko_42 _)
theorem d_Mo_build_20 : decode b_Mo_build 20 = .ok (.getfield 74, 3) := dk_U2 a_Mo_build_20 (dko_180 _) rfl
theorem d_Mo_build_23 : decode b_Mo_build 23 = .ok (.iconst 0, 1) := dk_0 a_Mo_build_23 (dko_3 _)
theorem d_Mo_build_24 : decode b_Mo_build 24 = .ok (.iaload, 1) := dk_0 a_Mo_build_24 (dko_46 _)
theorem d_Mo_build_25 : decode b_Mo_build 25 = .ok (.iadd, 1) := dk_0 a_Mo_build_25 (dko_96 _)
theorem d_Mo_build_26 : decode b_Mo_build 26 = .ok (.goto 4, 3) := dk_S2 a_Mo_build_26 (dko_167 _) (by decide +kernel)
theorem d_Mo_build_29 : decode b_Mo_build 29 = .ok (.iload_n 1, 1) := dk_0 a_Mo_build_29 (dko_27 _)
theorem d_Mo_build_30 : decode b_Mo_build 30 = .ok (.iastore, 1) := dk_0 a_Mo_build_30 (dko_79 _)
theorem d_Mo_build_31 : decode b_Mo_build 31 = .ok (.aload_n 0, 1) := dk_0 a_Mo_build_31 (dko_42 _)
theorem d_Mo_build_32 : decode b_Mo_build 32 = .ok (.getfield 31, 3) := dk_U2 a_Mo_build_32 (dko_180 _) rfl
theorem d_Mo_build_35 : decode b_Mo_build 35 = .ok (.aload_n 0, 1) := dk_0 a_Mo_build_35 (dko_42 _)
theorem d_Mo_build_36 : decode b_Mo_build 36 = .ok (.getfield 278, 3) := dk_U2 a_Mo_build_36 (dko_180 _) rfl
theorem d_Mo_build_39 : decode b_Mo_build 39 = .ok (.iload_n 1, 1) := dk_0 a_Mo_build_39 (dko_27 _)
theorem d_Mo_build_40 : decode b_Mo_build 40 = .ok (.ifCond .ne 12, 3) := dk_S2 a_Mo_build_40 (dko_154 _) (by decide +kernel)
theorem d_Mo_build_43 : decode b_Mo_build 43 = .ok (.aload_n 0, 1) := dk_0 a_Mo_build_43 (dko_42 _)
theorem d_Mo_build_44 : decode b_Mo_build 44 = .ok (.getfield 74, 3) := dk_U2 a_Mo_build_44 (dko_180 _) rfl
theorem d_Mo_build_47 : decode b_Mo_build 47 = .ok (.iconst 0, 1) := dk_0 a_Mo_build_47 (dko_3 _)
theorem d_Mo_build_48 : decode b_Mo_build 48 = .ok (.iaload, 1) := dk_0 a_Mo_build_48 (dko_46 _)
theorem d_Mo_build_49 : decode b_Mo_build 49 = .ok (.goto 4, 3) := dk_S2 a_Mo_build_49 (dko_167 _) (by decide +kernel)
theorem d_Mo_build_52 : decode b_Mo_build 52 = .ok (.iconst 0, 1) := dk_0 a_Mo_build_52 (dko_3 _)
theorem d_Mo_build_53 : decode b_Mo_build 53 = .ok (.iastore, 1) := dk_0 a_Mo_build_53 (dko_79 _)
theorem d_Mo_build_54 : decode b_Mo_build 54 = .ok (.aload_n 0, 1) := dk_0 a_Mo_build_54 (dko_42 _)
theorem d_Mo_build_55 : decode b_Mo_build 55 = .ok (.getfield 34, 3) := dk_U2 a_Mo_build_55 (dko_180 _) rfl
theorem d_Mo_build_58 : decode b_Mo_build 58 = .ok (.aload_n 0, 1) := dk_0 a_Mo_build_58 (dko_42 _)
theorem d_Mo_build_59 : decode b_Mo_build 59 = .ok (.getfield 278, 3) := dk_U2 a_Mo_build_59 (dko_180 _) rfl
theorem d_Mo_build_62 : decode b_Mo_build 62 = .ok (.iconst 0, 1) := dk_0 a_Mo_build_62 (dko_3 _)
theorem d_Mo_build_63 : decode b_Mo_build 63 = .ok (.iastore, 1) := dk_0 a_Mo_build_63 (dko_79 _)
theorem d_Mo_build_64 : decode b_Mo_build 64 = .ok (.aload_n 0, 1) := dk_0 a_Mo_build_64 (dko_42 _)
theorem d_Mo_build_65 : decode b_Mo_build 65 = .ok (.getfield 37, 3) := dk_U2 a_Mo_build_65 (dko_180 _) rfl
theorem d_Mo_build_68 : decode b_Mo_build 68 = .ok (.aload_n 0, 1) := dk_0 a_Mo_build_68 (dko_42 _)
theorem d_Mo_build_69 : decode b_Mo_build 69 = .ok (.getfield 278, 3) := dk_U2 a_Mo_build_69 (dko_180 _) rfl
theorem d_Mo_build_72 : decode b_Mo_build 72 = .ok (.iconst 0, 1) := dk_0 a_Mo_build_72 (dko_3 _)
theorem d_Mo_build_73 : decode b_Mo_build 73 = .ok (.iastore, 1) := dk_0 a_Mo_build_73 (dko_79 _)
theorem d_Mo_build_74 : decode b_Mo_build 74 = .ok (.aload_n 0, 1) := dk_0 a_Mo_build_74 (dko_42 _)
theorem d_Mo_build_75 : decode b_Mo_build 75 = .ok (.getfield 40, 3) := dk_U2 a_Mo_build_75 (dko_180 _) rfl
theorem d_Mo_build_78 : decode b_Mo_build 78 = .ok (.aload_n 0, 1) := dk_0 a_Mo_build_78 (dko_42 _)
theorem d_Mo_build_79 : decode b_Mo_build 79 = .ok (.getfield 278, 3) := dk_U2 a_Mo_build_79 (dko_180 _) rfl
theorem d_Mo_build_82 : decode b_Mo_build 82 = .ok (.iconst 0, 1) := dk_0 a_Mo_build_82 (dko_3 _)
theorem d_Mo_build_83 : decode b_Mo_build 83 = .ok (.iastore, 1) := dk_0 a_Mo_build_83 (dko_79 _)
theorem d_Mo_build_84 : decode b_Mo_build 84 = .ok (.aload_n 0, 1) := dk_0 a_Mo_build_84 (dko_42 _)
theorem d_Mo_build_85 : decode b_Mo_build 85 = .ok (.getfield 43, 3) := dk_U2 a_Mo_build_85 (dko_180 _) rfl
theorem d_Mo_build_88 : decode b_Mo_build 88 = .ok (.aload_n 0, 1) := dk_0 a_Mo_build_88 (dko_42 _)
theorem d_Mo_build_89 : decode b_Mo_build 89 = .ok (.getfield 278, 3) := dk_U2 a_Mo_build_89 (dko_180 _) rfl
theorem d_Mo_build_92 : decode b_Mo_build 92 = .ok (.iconst 0, 1) := dk_0 a_Mo_build_92 (dko_3 _)
theorem d_Mo_build_93 : decode b_Mo_build 93 = .ok (.iastore, 1) := dk_0 a_Mo_build_93 (dko_79 _)
theorem d_Mo_build_94 : decode b_Mo_build 94 = .ok (.aload_n 0, 1) := dk_0 a_Mo_build_94 (dko_42 _)
theorem d_Mo_build_95 : decode b_Mo_build 95 = .ok (.dup, 1) := dk_0 a_Mo_build_95 (dko_89 _)
theorem d_Mo_build_96 : decode b_Mo_build 96 = .ok (.getfield 278, 3) := dk_U2 a_Mo_build_96 (dko_180 _) rfl
theorem d_Mo_build_99 : decode b_Mo_build 99 = .ok (.iconst 1, 1) := dk_0 a_Mo_build_99 (dko_4 _)
theorem d_Mo_build_100 : decode b_Mo_build 100 = .ok (.iadd, 1) := dk_0 a_Mo_build_100 (dko_96 _)
theorem d_Mo_build_101 : decode b_Mo_build 101 = .ok (.putfield 278, 3) := dk_U2 a_Mo_build_101 (dko_181 _) rfl
theorem d_Mo_build_104 : decode b_Mo_build 104 = .ok (.return_, 1) := dk_0 a_Mo_build_104 (dko_177 _)
theorem d_Mo_build_105 : decode b_Mo_build 105 = .ok (.aload_n 0, 1) := dk_0 a_Mo_build_105 (dko_42 _)
theorem d_Mo_build_106 : decode b_Mo_build 106 = .ok (.getfield 46, 3) := dk_U2 a_Mo_build_106 (dko_180 _) rfl
theorem d_Mo_build_109 : decode b_Mo_build 109 = .ok (.aload_n 0, 1) := dk_0 a_Mo_build_109 (dko_42 _)
theorem d_Mo_build_110 : decode b_Mo_build 110 = .ok (.getfield 281, 3) := dk_U2 a_Mo_build_110 (dko_180 _) rfl
theorem d_Mo_build_113 : decode b_Mo_build 113 = .ok (.aload_n 0, 1) := dk_0 a_Mo_build_113 (dko_42 _)
theorem d_Mo_build_114 : decode b_Mo_build 114 = .ok (.getfield 74, 3) := dk_U2 a_Mo_build_114 (dko_180 _) rfl
theorem d_Mo_build_117 : decode b_Mo_build 117 = .ok (.iconst 2, 1) := dk_0 a_Mo_build_117 (dko_5 _)
theorem d_Mo_build_118 : decode b_Mo_build 118 = .ok (.iaload, 1) := dk_0 a_Mo_build_118 (dko_46 _)
theorem d_Mo_build_119 : decode b_Mo_build 119 = .ok (.iastore, 1) := dk_0 a_Mo_build_119 (dko_79 _)
theorem d_Mo_build_120 : decode b_Mo_build 120 = .ok (.iconst 0, 1) := dk_0 a_Mo_build_120 (dko_3 _)
theorem d_Mo_build_121 : decode b_Mo_build 121 = .ok (.istore_n 2, 1) := dk_0 a_Mo_build_121 (dko_61 _)
theorem d_Mo_build_122 : decode b_Mo_build 122 = .ok (.iload_n 2, 1) := dk_0 a_Mo_build_122 (dko_28 _)
theorem d_Mo_build_123 : decode b_Mo_build 123 = .ok (.sipush 200, 3) := dk_S2 a_Mo_build_123 (dko_17 _) (by decide +kernel)
theorem d_Mo_build_126 : decode b_Mo_build 126 = .ok (.if_icmp .ge 25, 3) := dk_S2 a_Mo_build_126 (dko_162 _) (by decide +kernel)
theorem d_Mo_build_129 : decode b_Mo_build 129 = .ok (.aload_n 0, 1) := dk_0 a_Mo_build_129 (dko_42 _)
theorem d_Mo_build_130 : decode b_Mo_build 130 = .ok (.getfield 55, 3) := dk_U2 a_Mo_build_130 (dko_180 _) rfl
theorem d_Mo_build_133 : decode b_Mo_build 133 = .ok (.sipush 200, 3) := dk_S2 a_Mo_build_133 (dko_17 _) (by decide +kernel)
theorem d_Mo_build_136 : decode b_Mo_build 136 = .ok (.aload_n 0, 1) := dk_0 a_Mo_build_136 (dko_42 _)
theorem d_Mo_build_137 : decode b_Mo_build 137 = .ok (.getfield 281, 3) := dk_U2 a_Mo_build_137 (dko_180 _) rfl
theorem d_Mo_build_140 : decode b_Mo_build 140 = .ok (.imul, 1) := dk_0 a_Mo_build_140 (dko_104 _)
theorem d_Mo_build_141 : decode b_Mo_build 141 = .ok (.iload_n 2, 1) := dk_0 a_Mo_build_141 (dko_28 _)
theorem d_Mo_build_142 : decode b_Mo_build 142 = .ok (.iadd, 1) := dk_0 a_Mo_build_142 (dko_96 _)
theorem d_Mo_build_143 : decode b_Mo_build 143 = .ok (.iconst 0, 1) := dk_0 a_Mo_build_143 (dko_3 _)
theorem d_Mo_build_144 : decode b_Mo_build 144 = .ok (.bastore, 1) := dk_0 a_Mo_build_144 (dko_84 _)
theorem d_Mo_build_145 : decode b_Mo_build 145 = .ok (.iinc 2 1, 3) := dk_US a_Mo_build_145 (dko_132 _) (by decide +kernel)
theorem d_Mo_build_148 : decode b_Mo_build 148 = .ok (.goto (-26), 3) := dk_S2 a_Mo_build_148 (dko_167 _) (by decide +kernel)
theorem d_Mo_build_151 : decode b_Mo_build 151 = .ok (.iconst 0, 1) := dk_0 a_Mo_build_151 (dko_3 _)
theorem d_Mo_build_152 : decode b_Mo_build 152 = .ok (.istore_n 2, 1) := dk_0 a_Mo_build_152 (dko_61 _)
theorem d_Mo_build_153 : decode b_Mo_build 153 = .ok (.iload_n 2, 1) := dk_0 a_Mo_build_153 (dko_28 _)
theorem d_Mo_build_154 : decode b_Mo_build 154 = .ok (.iconst 2, 1) := dk_0 a_Mo_build_154 (dko_5 _)
theorem d_Mo_build_155 : decode b_Mo_build 155 = .ok (.if_icmp .ge 71, 3) := dk_S2 a_Mo_build_155 (dko_162 _) (by decide +kernel)
theorem d_Mo_build_158 : decode b_Mo_build 158 = .ok (.aload_n 0, 1) := dk_0 a_Mo_build_158 (dko_42 _)
theorem d_Mo_build_159 : decode b_Mo_build 159 = .ok (.getfield 74, 3) := dk_U2 a_Mo_build_159 (dko_180 _) rfl
theorem d_Mo_build_162 : decode b_Mo_build 162 = .ok (.iload_n 2, 1) := dk_0 a_Mo_build_162 (dko_28 _)
theorem d_Mo_build_163 : decode b_Mo_build 163 = .ok (.iaload, 1) := dk_0 a_Mo_build_163 (dko_46 _)
theorem d_Mo_build_164 : decode b_Mo_build 164 = .ok (.istore_n 3, 1) := dk_0 a_Mo_build_164 (dko_62 _)
theorem d_Mo_build_165 : decode b_Mo_build 165 = .ok (.aload_n 0, 1) := dk_0 a_Mo_build_165 (dko_42 _)
theorem d_Mo_build_166 : decode b_Mo_build 166 = .ok (.getfield 49, 3) := dk_U2 a_Mo_build_166 (dko_180 _) rfl
theorem d_Mo_build_169 : decode b_Mo_build 169 = .ok (.iconst 2, 1) := dk_0 a_Mo_build_169 (dko_5 _)
theorem d_Mo_build_170 : decode b_Mo_build 170 = .ok (.aload_n 0, 1) := dk_0 a_Mo_build_170 (dko_42 _)
theorem d_Mo_build_171 : decode b_Mo_build 171 = .ok (.getfield 281, 3) := dk_U2 a_Mo_build_171 (dko_180 _) rfl
theorem d_Mo_build_174 : decode b_Mo_build 174 = .ok (.imul, 1) := dk_0 a_Mo_build_174 (dko_104 _)
theorem d_Mo_build_175 : decode b_Mo_build 175 = .ok (.iload_n 2, 1) := dk_0 a_Mo_build_175 (dko_28 _)
theorem d_Mo_build_176 : decode b_Mo_build 176 = .ok (.iadd, 1) := dk_0 a_Mo_build_176 (dko_96 _)
theorem d_Mo_build_177 : decode b_Mo_build 177 = .ok (.iload_n 3, 1) := dk_0 a_Mo_build_177 (dko_29 _)
theorem d_Mo_build_178 : decode b_Mo_build 178 = .ok (.iastore, 1) := dk_0 a_Mo_build_178 (dko_79 _)
theorem d_Mo_build_179 : decode b_Mo_build 179 = .ok (.aload_n 0, 1) := dk_0 a_Mo_build_179 (dko_42 _)
theorem d_Mo_build_180 : decode b_Mo_build 180 = .ok (.getfield 52, 3) := dk_U2 a_Mo_build_180 (dko_180 _) rfl
theorem d_Mo_build_183 : decode b_Mo_build 183 = .ok (.iconst 2, 1) := dk_0 a_Mo_build_183 (dko_5 _)
theorem d_Mo_build_184 : decode b_Mo_build 184 = .ok (.aload_n 0, 1) := dk_0 a_Mo_build_184 (dko_42 _)
theorem d_Mo_build_185 : decode b_Mo_build 185 = .ok (.getfield 281, 3) := dk_U2 a_Mo_build_185 (dko_180 _) rfl
theorem d_Mo_build_188 : decode b_Mo_build 188 = .ok (.imul, 1) := dk_0 a_Mo_build_188 (dko_104 _)
theorem d_Mo_build_189 : decode b_Mo_build 189 = .ok (.iload_n 2, 1) := dk_0 a_Mo_build_189 (dko_28 _)
theorem d_Mo_build_190 : decode b_Mo_build 190 = .ok (.iadd, 1) := dk_0 a_Mo_build_190 (dko_96 _)
theorem d_Mo_build_191 : decode b_Mo_build 191 = .ok (.iload_n 3, 1) := dk_0 a_Mo_build_191 (dko_29 _)
theorem d_Mo_build_192 : decode b_Mo_build 192 = .ok (.ifCond .ge 7, 3) := dk_S2 a_Mo_build_192 (dko_156 _) (by decide +kernel)
theorem d_Mo_build_195 : decode b_Mo_build 195 = .ok (.iconst (-1), 1) := dk_0 a_Mo_build_195 (dko_2 _)
theorem d_Mo_build_196 : decode b_Mo_build 196 = .ok (.goto 9, 3) := dk_S2 a_Mo_build_196 (dko_167 _) (by decide +kernel)
theorem d_Mo_build_199 : decode b_Mo_build 199 = .ok (.aload_n 0, 1) := dk_0 a_Mo_build_199 (dko_42 _)
theorem d_Mo_build_200 : decode b_Mo_build 200 = .ok (.getfield 43, 3) := dk_U2 a_Mo_build_200 (dko_180 _) rfl
theorem d_Mo_build_203 : decode b_Mo_build 203 = .ok (.iload_n 3, 1) := dk_0 a_Mo_build_203 (dko_29 _)
theorem d_Mo_build_204 : decode b_Mo_build 204 = .ok (.iaload, 1) := dk_0 a_Mo_build_204 (dko_46 _)
theorem d_Mo_build_205 : decode b_Mo_build 205 = .ok (.iastore, 1) := dk_0 a_Mo_build_205 (dko_79 _)
theorem d_Mo_build_206 : decode b_Mo_build 206 = .ok (.iload_n 3, 1) := dk_0 a_Mo_build_206 (dko_29 _)
theorem d_Mo_build_207 : decode b_Mo_build 207 = .ok (.ifCond .lt 13, 3) := dk_S2 a_Mo_build_207 (dko_155 _) (by decide +kernel)
theorem d_Mo_build_210 : decode b_Mo_build 210 = .ok (.aload_n 0, 1) := dk_0 a_Mo_build_210 (dko_42 _)
theorem d_Mo_build_211 : decode b_Mo_build 211 = .ok (.getfield 43, 3) := dk_U2 a_Mo_build_211 (dko_180 _) rfl
theorem d_Mo_build_214 : decode b_Mo_build 214 = .ok (.iload_n 3, 1) := dk_0 a_Mo_build_214 (dko_29 _)
theorem d_Mo_build_215 : decode b_Mo_build 215 = .ok (.dup2, 1) := dk_0 a_Mo_build_215 (dko_92 _)
theorem d_Mo_build_216 : decode b_Mo_build 216 = .ok (.iaload, 1) := dk_0 a_Mo_build_216 (dko_46 _)
theorem d_Mo_build_217 : decode b_Mo_build 217 = .ok (.iconst 1, 1) := dk_0 a_Mo_build_217 (dko_4 _)
theorem d_Mo_build_218 : decode b_Mo_build 218 = .ok (.iadd, 1) := dk_0 a_Mo_build_218 (dko_96 _)
theorem d_Mo_build_219 : decode b_Mo_build 219 = .ok (.iastore, 1) := dk_0 a_Mo_build_219 (dko_79 _)
theorem d_Mo_build_220 : decode b_Mo_build 220 = .ok (.iinc 2 1, 3) := dk_US a_Mo_build_220 (dko_132 _) (by decide +kernel)
theorem d_Mo_build_223 : decode b_Mo_build 223 = .ok (.goto (-70), 3) := dk_S2 a_Mo_build_223 (dko_167 _) (by decide +kernel)
theorem d_Mo_build_226 : decode b_Mo_build 226 = .ok (.aload_n 0, 1) := dk_0 a_Mo_build_226 (dko_42 _)
theorem d_Mo_build_227 : decode b_Mo_build 227 = .ok (.dup, 1) := dk_0 a_Mo_build_227 (dko_89 _)
theorem d_Mo_build_228 : decode b_Mo_build 228 = .ok (.getfield 281, 3) := dk_U2 a_Mo_build_228 (dko_180 _) rfl
theorem d_Mo_build_231 : decode b_Mo_build 231 = .ok (.iconst 1, 1) := dk_0 a_Mo_build_231 (dko_4 _)
theorem d_Mo_build_232 : decode b_Mo_build 232 = .ok (.iadd, 1) := dk_0 a_Mo_build_232 (dko_96 _)
theorem d_Mo_build_233 : decode b_Mo_build 233 = .ok (.putfield 281, 3) := dk_U2 a_Mo_build_233 (dko_181 _) rfl
theorem d_Mo_build_236 : decode b_Mo_build 236 = .ok (.return_, 1) := dk_0 a_Mo_build_236 (dko_177 _)
set_option maxHeartbeats 4000000 in
set_option maxRecDepth 100000 in
theorem ok_Mo_build (pc : Nat) : OpS mt mi_Mo_build pc (cs_Mo_build pc) := (os_n (os_n (os_n (os_n (os_n (os_n (os_n (os_l (so_iload_n d_Mo_build_0 rfl)) (os_l (so_iconst d_Mo_build_1 (by decide)))) (os_n (os_l (so_iceq d_Mo_build_2 (by decide))) (os_l (so_aload_n d_Mo_build_5 rfl)))) (os_n (os_n (os_l (so_get (C := R_Mo) (T := F_Mo) (N := 87) (j := 5) in_Mo rfl (by decide) mw_1799 d_Mo_build_6)) (os_l (so_aload_n d_Mo_build_9 rfl))) (os_n (os_l (so_get (C := R_Mo) (T := F_Mo) (N := 87) (j := 4) in_Mo rfl (by decide) mw_1798 d_Mo_build_10)) (os_n (os_l (so_iload_n d_Mo_build_13 rfl)) (os_l (so_iconst d_Mo_build_14 (by decide))))))) (os_n (os_n (os_n (os_l (so_icne d_Mo_build_15 (by decide))) (os_l (so_iconst d_Mo_build_18 (by decide)))) (os_n (os_l (so_aload_n d_Mo_build_19 rfl)) (os_l (so_get (C := R_Mo) (T := F_Mo) (N := 87) (j := 23) in_Mo rfl (by decide) mw_1817 d_Mo_build_20)))) (os_n (os_n (os_l (so_iconst d_Mo_build_23 (by decide))) (os_l (so_iaload d_Mo_build_24))) (os_n (os_l (so_iadd d_Mo_build_25)) (os_n (os_l (so_goto d_Mo_build_26 (by decide))) (os_l (so_iload_n d_Mo_build_29 rfl))))))) (os_n (os_n (os_n (os_n (os_l (so_iastore d_Mo_build_30)) (os_l (so_aload_n d_Mo_build_31 rfl))) (os_n (os_l (so_get (C := R_Mo) (T := F_Mo) (N := 87) (j := 6) in_Mo rfl (by decide) mw_1800 d_Mo_build_32)) (os_l (so_aload_n d_Mo_build_35 rfl)))) (os_n (os_n (os_l (so_get (C := R_Mo) (T := F_Mo) (N := 87) (j := 4) in_Mo rfl (by decide) mw_1798 d_Mo_build_36)) (os_l (so_iload_n d_Mo_build_39 rfl))) (os_n (os_l (so_ifne d_Mo_build_40 (by decide))) (os_n (os_l (so_aload_n d_Mo_build_43 rfl)) (os_l (so_get (C := R_Mo) (T := F_Mo) (N := 87) (j := 23) in_Mo rfl (by decide) mw_1817 d_Mo_build_44)))))) (os_n (os_n (os_n (os_l (so_iconst d_Mo_build_47 (by decide))) (os_l (so_iaload d_Mo_build_48))) (os_n (os_l (so_goto d_Mo_build_49 (by decide))) (os_l (so_iconst d_Mo_build_52 (by decide))))) (os_n (os_n (os_l (so_iastore d_Mo_build_53)) (os_l (so_aload_n d_Mo_build_54 rfl))) (os_n (os_l (so_get (C := R_Mo) (T := F_Mo) (N := 87) (j := 7) in_Mo rfl (by decide) mw_1801 d_Mo_build_55)) (os_n (os_l (so_aload_n d_Mo_build_58 rfl)) (os_l (so_get (C := R_Mo) (T := F_Mo) (N := 87) (j := 4) in_Mo rfl (by decide) mw_1798 d_Mo_build_59)))))))) (os_n (os_n (os_n (os_n (os_n (os_l (so_iconst d_Mo_build_62 (by decide))) (os_l (so_iastore d_Mo_build_63))) (os_n (os_l (so_aload_n d_Mo_build_64 rfl)) (os_l (so_get (C := R_Mo) (T := F_Mo) (N := 87) (j := 8) in_Mo rfl (by decide) mw_1802 d_Mo_build_65)))) (os_n (os_n (os_l (so_aload_n d_Mo_build_68 rfl)) (os_l (so_get (C := R_Mo) (T := F_Mo) (N := 87) (j := 4) in_Mo rfl (by decide) mw_1798 d_Mo_build_69))) (os_n (os_l (so_iconst d_Mo_build_72 (by decide))) (os_n (os_l (so_iastore d_Mo_build_73)) (os_l (so_aload_n d_Mo_build_74 rfl)))))) (os_n (os_n (os_n (os_l (so_get (C := R_Mo) (T := F_Mo) (N := 87) (j := 9) in_Mo rfl (by decide) mw_1803 d_Mo_build_75)) (os_l (so_aload_n d_Mo_build_78 rfl))) (os_n (os_l (so_get (C := R_Mo) (T := F_Mo) (N := 87) (j := 4) in_Mo rfl (by decide) mw_1798 d_Mo_build_79)) (os_l (so_iconst d_Mo_build_82 (by decide))))) (os_n (os_n (os_l (so_iastore d_Mo_build_83)) (os_l (so_aload_n d_Mo_build_84 rfl))) (os_n (os_l (so_get (C := R_Mo) (T := F_Mo) (N := 87) (j := 10) in_Mo rfl (by decide) mw_1804 d_Mo_build_85)) (os_n (os_l (so_aload_n d_Mo_build_88 rfl)) (os_l (so_get (C := R_Mo) (T := F_Mo) (N := 87) (j := 4) in_Mo rfl (by decide) mw_1798 d_Mo_build_89))))))) (os_n (os_n (os_n (os_n (os_l (so_iconst d_Mo_build_92 (by decide))) (os_l (so_iastore d_Mo_build_93))) (os_n (os_l (so_aload_n d_Mo_build_94 rfl)) (os_l (so_dup d_Mo_build_95)))) (os_n (os_n (os_l (so_get (C := R_Mo) (T := F_Mo) (N := 87) (j := 4) in_Mo rfl (by decide) mw_1798 d_Mo_build_96)) (os_l (so_iconst d_Mo_build_99 (by decide)))) (os_n (os_l (so_iadd d_Mo_build_100)) (os_n (os_l (so_putI (C := R_Mo) (T := F_Mo) (N := 87) (j := 4) in_Mo t_Mo_ok n_Mo rfl (by decide) mw_1798 rfl (by decide +kernel) d_Mo_build_101)) (os_l (so_return rfl d_Mo_build_104)))))) (os_n (os_n (os_n (os_l (so_aload_n d_Mo_build_105 rfl)) (os_l (so_get (C := R_Mo) (T := F_Mo) (N := 87) (j := 12) in_Mo rfl (by decide) mw_1806 d_Mo_build_106))) (os_n (os_l (so_aload_n d_Mo_build_109 rfl)) (os_l (so_get (C := R_Mo) (T := F_Mo) (N := 87) (j := 11) in_Mo rfl (by decide) mw_1805 d_Mo_build_110)))) (os_n (os_n (os_l (so_aload_n d_Mo_build_113 rfl)) (os_l (so_get (C := R_Mo) (T := F_Mo) (N := 87) (j := 23) in_Mo rfl (by decide) mw_1817 d_Mo_build_114))) (os_n (os_l (so_iconst d_Mo_build_117 (by decide))) (os_n (os_l (so_iaload d_Mo_build_118)) (os_l (so_iastore d_Mo_build_119))))))))) (os_n (os_n (os_n (os_n (os_n (os_n (os_l (so_iconst d_Mo_build_120 (by decide))) (os_l (so_istore_n d_Mo_build_121 rfl (by decide)))) (os_n (os_l (so_iload_n d_Mo_build_122 rfl)) (os_l (so_sipush d_Mo_build_123 (by decide))))) (os_n (os_n (os_l (so_icge d_Mo_build_126 (by decide))) (os_l (so_aload_n d_Mo_build_129 rfl))) (os_n (os_l (so_get (C := R_Mo) (T := F_Mo) (N := 87) (j := 15) in_Mo rfl (by decide) mw_1809 d_Mo_build_130)) (os_n (os_l (so_sipush d_Mo_build_133 (by decide))) (os_l (so_aload_n d_Mo_build_136 rfl)))))) (os_n (os_n (os_n (os_l (so_get (C := R_Mo) (T := F_Mo) (N := 87) (j := 11) in_Mo rfl (by decide) mw_1805 d_Mo_build_137)) (os_l (so_imul d_Mo_build_140))) (os_n (os_l (so_iload_n d_Mo_build_141 rfl)) (os_l (so_iadd d_Mo_build_142)))) (os_n (os_n (os_l (so_iconst d_Mo_build_143 (by decide))) (os_l (so_bastore d_Mo_build_144))) (os_n (os_l (so_iinc d_Mo_build_145 (by decide) (by decide))) (os_n (os_l (so_goto d_Mo_build_148 (by decide))) (os_l (so_iconst d_Mo_build_151 (by decide)))))))) (os_n (os_n (os_n (os_n (os_l (so_istore_n d_Mo_build_152 rfl (by decide))) (os_l (so_iload_n d_Mo_build_153 rfl))) (os_n (os_l (so_iconst d_Mo_build_154 (by decide))) (os_l (so_icge d_Mo_build_155 (by decide))))) (os_n (os_n (os_l (so_aload_n d_Mo_build_158 rfl)) (os_l (so_get (C := R_Mo) (T := F_Mo) (N := 87) (j := 23) in_Mo rfl (by decide) mw_1817 d_Mo_build_159))) (os_n (os_l (so_iload_n d_Mo_build_162 rfl)) (os_n (os_l (so_iaload d_Mo_build_163)) (os_l (so_istore_n d_Mo_build_164 rfl (by decide))))))) (os_n (os_n (os_n (os_l (so_aload_n d_Mo_build_165 rfl)) (os_l (so_get (C := R_Mo) (T := F_Mo) (N := 87) (j := 13) in_Mo rfl (by decide) mw_1807 d_Mo_build_166))) (os_n (os_l (so_iconst d_Mo_build_169 (by decide))) (os_l (so_aload_n d_Mo_build_170 rfl)))) (os_n (os_n (os_l (so_get (C := R_Mo) (T := F_Mo) (N := 87) (j := 11) in_Mo rfl (by decide) mw_1805 d_Mo_build_171)) (os_l (so_imul d_Mo_build_174))) (os_n (os_l (so_iload_n d_Mo_build_175 rfl)) (os_n (os_l (so_iadd d_Mo_build_176)) (os_l (so_iload_n d_Mo_build_177 rfl)))))))) (os_n (os_n (os_n (os_n (os_n (os_l (so_iastore d_Mo_build_178)) (os_l (so_aload_n d_Mo_build_179 rfl))) (os_n (os_l (so_get (C := R_Mo) (T := F_Mo) (N := 87) (j := 14) in_Mo rfl (by decide) mw_1808 d_Mo_build_180)) (os_l (so_iconst d_Mo_build_183 (by decide))))) (os_n (os_n (os_l (so_aload_n d_Mo_build_184 rfl)) (os_l (so_get (C := R_Mo) (T := F_Mo) (N := 87) (j := 11) in_Mo rfl (by decide) mw_1805 d_Mo_build_185))) (os_n (os_l (so_imul d_Mo_build_188)) (os_n (os_l (so_iload_n d_Mo_build_189 rfl)) (os_l (so_iadd d_Mo_build_190)))))) (os_n (os_n (os_n (os_l (so_iload_n d_Mo_build_191 rfl)) (os_l (so_ifge d_Mo_build_192 (by decide)))) (os_n (os_l (so_iconst d_Mo_build_195 (by decide))) (os_l (so_goto d_Mo_build_196 (by decide))))) (os_n (os_n (os_l (so_aload_n d_Mo_build_199 rfl)) (os_l (so_get (C := R_Mo) (T := F_Mo) (N := 87) (j := 10) in_Mo rfl (by decide) mw_1804 d_Mo_build_200))) (os_n (os_l (so_iload_n d_Mo_build_203 rfl)) (os_n (os_l (so_iaload d_Mo_build_204)) (os_l (so_iastore d_Mo_build_205))))))) (os_n (os_n (os_n (os_n (os_l (so_iload_n d_Mo_build_206 rfl)) (os_l (so_iflt d_Mo_build_207 (by decide)))) (os_n (os_l (so_aload_n d_Mo_build_210 rfl)) (os_l (so_get (C := R_Mo) (T := F_Mo) (N := 87) (j := 10) in_Mo rfl (by decide) mw_1804 d_Mo_build_211)))) (os_n (os_n (os_l (so_iload_n d_Mo_build_214 rfl)) (os_l (so_dup2 d_Mo_build_215))) (os_n (os_l (so_iaload d_Mo_build_216)) (os_n (os_l (so_iconst d_Mo_build_217 (by decide))) (os_l (so_iadd d_Mo_build_218)))))) (os_n (os_n (os_n (os_l (so_iastore d_Mo_build_219)) (os_l (so_iinc d_Mo_build_220 (by decide) (by decide)))) (os_n (os_l (so_goto d_Mo_build_223 (by decide))) (os_n (os_l (so_aload_n d_Mo_build_226 rfl)) (os_l (so_dup d_Mo_build_227))))) (os_n (os_n (os_l (so_get (C := R_Mo) (T := F_Mo) (N := 87) (j := 11) in_Mo rfl (by decide) mw_1805 d_Mo_build_228)) (os_l (so_iconst d_Mo_build_231 (by decide)))) (os_n (os_l (so_iadd d_Mo_build_232)) (os_n (os_l (so_putI (C := R_Mo) (T := F_Mo) (N := 87) (j := 11) in_Mo t_Mo_ok n_Mo rfl (by decide) mw_1805 rfl (by decide +kernel) d_Mo_build_233)) (os_l (so_return rfl d_Mo_build_236))))))))))
abbrev t_Mo_letter_29 : List UInt8 := 177 :: []
abbrev t_Mo_letter_26 : List UInt8 := 181 :: 1 :: 38 :: t_Mo_letter_29
abbrev t_Mo_letter_25 : List UInt8 := 100 :: t_Mo_letter_26
abbrev t_Mo_letter_24 : List UInt8 := 4 :: t_Mo_letter_25
abbrev t_Mo_letter_21 : List UInt8 := 180 :: 1 :: 38 :: t_Mo_letter_24
abbrev t_Mo_letter_20 : List UInt8 := 89 :: t_Mo_letter_21
abbrev t_Mo_letter_19 : List UInt8 := 42 :: t_Mo_letter_20
abbrev t_Mo_letter_16 : List UInt8 := 181 :: 1 :: 41 :: t_Mo_letter_19
abbrev t_Mo_letter_13 : List UInt8 := 180 :: 1 :: 41 :: t_Mo_letter_16
abbrev t_Mo_letter_12 : List UInt8 := 42 :: t_Mo_letter_13
abbrev t_Mo_letter_9 : List UInt8 := 167 :: 0 :: 7 :: t_Mo_letter_12
abbrev t_Mo_letter_8 : List UInt8 := 27 :: t_Mo_letter_9
abbrev t_Mo_letter_5 : List UInt8 := 154 :: 0 :: 7 :: t_Mo_letter_8
abbrev t_Mo_letter_2 : List UInt8 := 180 :: 1 :: 38 :: t_Mo_letter_5
abbrev t_Mo_letter_1 : List UInt8 := 42 :: t_Mo_letter_2
abbrev t_Mo_letter_0 : List UInt8 := 42 :: t_Mo_letter_1
theorem a_Mo_letter_0 : dk_at b_Mo_letter 0 t_Mo_letter_0 := dk_start (by decide +kernel)
theorem a_Mo_letter_1 : dk_at b_Mo_letter 1 t_Mo_letter_1 := dk_go 1 a_Mo_letter_0 rfl
theorem a_Mo_letter_2 : dk_at b_Mo_letter 2 t_Mo_letter_2 := dk_go 1 a_Mo_letter_1 rfl
theorem a_Mo_letter_5 : dk_at b_Mo_letter 5 t_Mo_letter_5 := dk_go 3 a_Mo_letter_2 rfl
theorem a_Mo_letter_8 : dk_at b_Mo_letter 8 t_Mo_letter_8 := dk_go 3 a_Mo_letter_5 rfl
theorem a_Mo_letter_9 : dk_at b_Mo_letter 9 t_Mo_letter_9 := dk_go 1 a_Mo_letter_8 rfl
theorem a_Mo_letter_12 : dk_at b_Mo_letter 12 t_Mo_letter_12 := dk_go 3 a_Mo_letter_9 rfl
theorem a_Mo_letter_13 : dk_at b_Mo_letter 13 t_Mo_letter_13 := dk_go 1 a_Mo_letter_12 rfl
theorem a_Mo_letter_16 : dk_at b_Mo_letter 16 t_Mo_letter_16 := dk_go 3 a_Mo_letter_13 rfl
theorem a_Mo_letter_19 : dk_at b_Mo_letter 19 t_Mo_letter_19 := dk_go 3 a_Mo_letter_16 rfl
theorem a_Mo_letter_20 : dk_at b_Mo_letter 20 t_Mo_letter_20 := dk_go 1 a_Mo_letter_19 rfl
theorem a_Mo_letter_21 : dk_at b_Mo_letter 21 t_Mo_letter_21 := dk_go 1 a_Mo_letter_20 rfl
theorem a_Mo_letter_24 : dk_at b_Mo_letter 24 t_Mo_letter_24 := dk_go 3 a_Mo_letter_21 rfl
theorem a_Mo_letter_25 : dk_at b_Mo_letter 25 t_Mo_letter_25 := dk_go 1 a_Mo_letter_24 rfl
theorem a_Mo_letter_26 : dk_at b_Mo_letter 26 t_Mo_letter_26 := dk_go 1 a_Mo_letter_25 rfl
theorem a_Mo_letter_29 : dk_at b_Mo_letter 29 t_Mo_letter_29 := dk_go 3 a_Mo_letter_26 rfl
theorem d_Mo_letter_0 : decode b_Mo_letter 0 = .ok (.aload_n 0, 1) := dk_0 a_Mo_letter_0 (dko_42 _)
theorem d_Mo_letter_1 : decode b_Mo_letter 1 = .ok (.aload_n 0, 1) := dk_0 a_Mo_letter_1 (dko_42 _)
theorem d_Mo_letter_2 : decode b_Mo_letter 2 = .ok (.getfield 294, 3) := dk_U2 a_Mo_letter_2 (dko_180 _) rfl
theorem d_Mo_letter_5 : decode b_Mo_letter 5 = .ok (.ifCond .ne 7, 3) := dk_S2 a_Mo_letter_5 (dko_154 _) (by decide +kernel)
theorem d_Mo_letter_8 : decode b_Mo_letter 8 = .ok (.iload_n 1, 1) := dk_0 a_Mo_letter_8 (dko_27 _)
theorem d_Mo_letter_9 : decode b_Mo_letter 9 = .ok (.goto 7, 3) := dk_S2 a_Mo_letter_9 (dko_167 _) (by decide +kernel)
theorem d_Mo_letter_12 : decode b_Mo_letter 12 = .ok (.aload_n 0, 1) := dk_0 a_Mo_letter_12 (dko_42 _)
theorem d_Mo_letter_13 : decode b_Mo_letter 13 = .ok (.getfield 297, 3) := dk_U2 a_Mo_letter_13 (dko_180 _) rfl
theorem d_Mo_letter_16 : decode b_Mo_letter 16 = .ok (.putfield 297, 3) := dk_U2 a_Mo_letter_16 (dko_181 _) rfl
theorem d_Mo_letter_19 : decode b_Mo_letter 19 = .ok (.aload_n 0, 1) := dk_0 a_Mo_letter_19 (dko_42 _)
theorem d_Mo_letter_20 : decode b_Mo_letter 20 = .ok (.dup, 1) := dk_0 a_Mo_letter_20 (dko_89 _)
theorem d_Mo_letter_21 : decode b_Mo_letter 21 = .ok (.getfield 294, 3) := dk_U2 a_Mo_letter_21 (dko_180 _) rfl
theorem d_Mo_letter_24 : decode b_Mo_letter 24 = .ok (.iconst 1, 1) := dk_0 a_Mo_letter_24 (dko_4 _)
theorem d_Mo_letter_25 : decode b_Mo_letter 25 = .ok (.isub, 1) := dk_0 a_Mo_letter_25 (dko_100 _)
theorem d_Mo_letter_26 : decode b_Mo_letter 26 = .ok (.putfield 294, 3) := dk_U2 a_Mo_letter_26 (dko_181 _) rfl
theorem d_Mo_letter_29 : decode b_Mo_letter 29 = .ok (.return_, 1) := dk_0 a_Mo_letter_29 (dko_177 _)
set_option maxHeartbeats 4000000 in
set_option maxRecDepth 100000 in
theorem ok_Mo_letter (pc : Nat) : OpS mt mi_Mo_letter pc (cs_Mo_letter pc) := (os_n (os_n (os_n (os_n (os_l (so_aload_n d_Mo_letter_0 rfl)) (os_l (so_aload_n d_Mo_letter_1 rfl))) (os_n (os_l (so_get (C := R_Mo) (T := F_Mo) (N := 87) (j := 83) in_Mo rfl (by decide) mw_1877 d_Mo_letter_2)) (os_l (so_ifne d_Mo_letter_5 (by decide))))) (os_n (os_n (os_l (so_iload_n d_Mo_letter_8 rfl)) (os_l (so_goto d_Mo_letter_9 (by decide)))) (os_n (os_l (so_aload_n d_Mo_letter_12 rfl)) (os_l (so_get (C := R_Mo) (T := F_Mo) (N := 87) (j := 84) in_Mo rfl (by decide) mw_1878 d_Mo_letter_13))))) (os_n (os_n (os_n (os_l (so_putI (C := R_Mo) (T := F_Mo) (N := 87) (j := 84) in_Mo t_Mo_ok n_Mo rfl (by decide) mw_1878 rfl (by decide +kernel) d_Mo_letter_16)) (os_l (so_aload_n d_Mo_letter_19 rfl))) (os_n (os_l (so_dup d_Mo_letter_20)) (os_l (so_get (C := R_Mo) (T := F_Mo) (N := 87) (j := 83) in_Mo rfl (by decide) mw_1877 d_Mo_letter_21)))) (os_n (os_n (os_l (so_iconst d_Mo_letter_24 (by decide))) (os_l (so_isub d_Mo_letter_25))) (os_n (os_l (so_putI (C := R_Mo) (T := F_Mo) (N := 87) (j := 83) in_Mo t_Mo_ok n_Mo rfl (by decide) mw_1877 rfl (by decide +kernel) d_Mo_letter_26)) (os_l (so_return rfl d_Mo_letter_29))))))
abbrev t_Mo_say_26 : List UInt8 := 177 :: []
abbrev t_Mo_say_23 : List UInt8 := 167 :: 255 :: 235 :: t_Mo_say_26
abbrev t_Mo_say_22 : List UInt8 := 66 :: t_Mo_say_23
abbrev t_Mo_say_21 : List UInt8 := 125 :: t_Mo_say_22
abbrev t_Mo_say_19 : List UInt8 := 16 :: 8 :: t_Mo_say_21
abbrev t_Mo_say_18 : List UInt8 := 33 :: t_Mo_say_19
abbrev t_Mo_say_15 : List UInt8 := 182 :: 1 :: 44 :: t_Mo_say_18
abbrev t_Mo_say_14 : List UInt8 := 136 :: t_Mo_say_15
abbrev t_Mo_say_13 : List UInt8 := 127 :: t_Mo_say_14
abbrev t_Mo_say_10 : List UInt8 := 20 :: 0 :: 240 :: t_Mo_say_13
abbrev t_Mo_say_9 : List UInt8 := 33 :: t_Mo_say_10
abbrev t_Mo_say_8 : List UInt8 := 42 :: t_Mo_say_9
abbrev t_Mo_say_5 : List UInt8 := 153 :: 0 :: 21 :: t_Mo_say_8
abbrev t_Mo_say_4 : List UInt8 := 148 :: t_Mo_say_5
abbrev t_Mo_say_3 : List UInt8 := 9 :: t_Mo_say_4
abbrev t_Mo_say_2 : List UInt8 := 33 :: t_Mo_say_3
abbrev t_Mo_say_1 : List UInt8 := 66 :: t_Mo_say_2
abbrev t_Mo_say_0 : List UInt8 := 31 :: t_Mo_say_1
theorem a_Mo_say_0 : dk_at b_Mo_say 0 t_Mo_say_0 := dk_start (by decide +kernel)
theorem a_Mo_say_1 : dk_at b_Mo_say 1 t_Mo_say_1 := dk_go 1 a_Mo_say_0 rfl
theorem a_Mo_say_2 : dk_at b_Mo_say 2 t_Mo_say_2 := dk_go 1 a_Mo_say_1 rfl
theorem a_Mo_say_3 : dk_at b_Mo_say 3 t_Mo_say_3 := dk_go 1 a_Mo_say_2 rfl
theorem a_Mo_say_4 : dk_at b_Mo_say 4 t_Mo_say_4 := dk_go 1 a_Mo_say_3 rfl
theorem a_Mo_say_5 : dk_at b_Mo_say 5 t_Mo_say_5 := dk_go 1 a_Mo_say_4 rfl
theorem a_Mo_say_8 : dk_at b_Mo_say 8 t_Mo_say_8 := dk_go 3 a_Mo_say_5 rfl
theorem a_Mo_say_9 : dk_at b_Mo_say 9 t_Mo_say_9 := dk_go 1 a_Mo_say_8 rfl
theorem a_Mo_say_10 : dk_at b_Mo_say 10 t_Mo_say_10 := dk_go 1 a_Mo_say_9 rfl
theorem a_Mo_say_13 : dk_at b_Mo_say 13 t_Mo_say_13 := dk_go 3 a_Mo_say_10 rfl
theorem a_Mo_say_14 : dk_at b_Mo_say 14 t_Mo_say_14 := dk_go 1 a_Mo_say_13 rfl
theorem a_Mo_say_15 : dk_at b_Mo_say 15 t_Mo_say_15 := dk_go 1 a_Mo_say_14 rfl
theorem a_Mo_say_18 : dk_at b_Mo_say 18 t_Mo_say_18 := dk_go 3 a_Mo_say_15 rfl
theorem a_Mo_say_19 : dk_at b_Mo_say 19 t_Mo_say_19 := dk_go 1 a_Mo_say_18 rfl
theorem a_Mo_say_21 : dk_at b_Mo_say 21 t_Mo_say_21 := dk_go 2 a_Mo_say_19 rfl
theorem a_Mo_say_22 : dk_at b_Mo_say 22 t_Mo_say_22 := dk_go 1 a_Mo_say_21 rfl
theorem a_Mo_say_23 : dk_at b_Mo_say 23 t_Mo_say_23 := dk_go 1 a_Mo_say_22 rfl
theorem a_Mo_say_26 : dk_at b_Mo_say 26 t_Mo_say_26 := dk_go 3 a_Mo_say_23 rfl
theorem d_Mo_say_0 : decode b_Mo_say 0 = .ok (.lload_n 1, 1) := dk_0 a_Mo_say_0 (dko_31 _)
theorem d_Mo_say_1 : decode b_Mo_say 1 = .ok (.lstore_n 3, 1) := dk_0 a_Mo_say_1 (dko_66 _)
theorem d_Mo_say_2 : decode b_Mo_say 2 = .ok (.lload_n 3, 1) := dk_0 a_Mo_say_2 (dko_33 _)
theorem d_Mo_say_3 : decode b_Mo_say 3 = .ok (.lconst 0, 1) := dk_0 a_Mo_say_3 (dko_9 _)
theorem d_Mo_say_4 : decode b_Mo_say 4 = .ok (.lcmp, 1) := dk_0 a_Mo_say_4 (dko_148 _)
theorem d_Mo_say_5 : decode b_Mo_say 5 = .ok (.ifCond .eq 21, 3) := dk_S2 a_Mo_say_5 (dko_153 _) (by decide +kernel)
theorem d_Mo_say_8 : decode b_Mo_say 8 = .ok (.aload_n 0, 1) := dk_0 a_Mo_say_8 (dko_42 _)
theorem d_Mo_say_9 : decode b_Mo_say 9 = .ok (.lload_n 3, 1) := dk_0 a_Mo_say_9 (dko_33 _)
theorem d_Mo_say_10 : decode b_Mo_say 10 = .ok (.ldc2_w 240, 3) := dk_U2 a_Mo_say_10 (dko_20 _) rfl
theorem d_Mo_say_13 : decode b_Mo_say 13 = .ok (.land, 1) := dk_0 a_Mo_say_13 (dko_127 _)
theorem d_Mo_say_14 : decode b_Mo_say 14 = .ok (.l2i, 1) := dk_0 a_Mo_say_14 (dko_136 _)
theorem d_Mo_say_15 : decode b_Mo_say 15 = .ok (.invokevirtual 300, 3) := dk_U2 a_Mo_say_15 (dko_182 _) rfl
theorem d_Mo_say_18 : decode b_Mo_say 18 = .ok (.lload_n 3, 1) := dk_0 a_Mo_say_18 (dko_33 _)
theorem d_Mo_say_19 : decode b_Mo_say 19 = .ok (.bipush 8, 2) := dk_S1 a_Mo_say_19 (dko_16 _) (by decide +kernel)
theorem d_Mo_say_21 : decode b_Mo_say 21 = .ok (.lushr, 1) := dk_0 a_Mo_say_21 (dko_125 _)
theorem d_Mo_say_22 : decode b_Mo_say 22 = .ok (.lstore_n 3, 1) := dk_0 a_Mo_say_22 (dko_66 _)
theorem d_Mo_say_23 : decode b_Mo_say 23 = .ok (.goto (-21), 3) := dk_S2 a_Mo_say_23 (dko_167 _) (by decide +kernel)
theorem d_Mo_say_26 : decode b_Mo_say 26 = .ok (.return_, 1) := dk_0 a_Mo_say_26 (dko_177 _)
set_option maxHeartbeats 4000000 in
set_option maxRecDepth 100000 in
theorem ok_Mo_say (pc : Nat) : OpS mt mi_Mo_say pc (cs_Mo_say pc) := (os_n (os_n (os_n (os_n (os_l (so_lload_n d_Mo_say_0 rfl)) (os_l (so_lstore_n d_Mo_say_1 rfl (by decide)))) (os_n (os_l (so_lload_n d_Mo_say_2 rfl)) (os_l (so_lconst d_Mo_say_3 (by decide))))) (os_n (os_n (os_l (so_lcmp d_Mo_say_4)) (os_l (so_ifeq d_Mo_say_5 (by decide)))) (os_n (os_l (so_aload_n d_Mo_say_8 rfl)) (os_n (os_l (so_lload_n d_Mo_say_9 rfl)) (os_l (so_ldc2 mw_2081 d_Mo_say_10)))))) (os_n (os_n (os_n (os_l (so_land d_Mo_say_13)) (os_l (so_l2i d_Mo_say_14))) (os_n (os_l (so_callV (iv := mi_Mo_letter) rfl rfl rfl mw_2356 mw_2358 sl_143 mw_18 mw_2359 ⟨by decide +kernel, by decide +kernel, by decide +kernel⟩ (by decide) d_Mo_say_15)) (os_l (so_lload_n d_Mo_say_18 rfl)))) (os_n (os_n (os_l (so_bipush d_Mo_say_19 (by decide))) (os_l (so_lushr d_Mo_say_21))) (os_n (os_l (so_lstore_n d_Mo_say_22 rfl (by decide))) (os_n (os_l (so_goto d_Mo_say_23 (by decide))) (os_l (so_return rfl d_Mo_say_26)))))))
abbrev t_Mo_sayNumber_62 : List UInt8 := 177 :: []
abbrev t_Mo_sayNumber_59 : List UInt8 := 167 :: 255 :: 234 :: t_Mo_sayNumber_62
abbrev t_Mo_sayNumber_58 : List UInt8 := 62 :: t_Mo_sayNumber_59
abbrev t_Mo_sayNumber_57 : List UInt8 := 108 :: t_Mo_sayNumber_58
abbrev t_Mo_sayNumber_55 : List UInt8 := 16 :: 10 :: t_Mo_sayNumber_57
abbrev t_Mo_sayNumber_54 : List UInt8 := 29 :: t_Mo_sayNumber_55
abbrev t_Mo_sayNumber_51 : List UInt8 := 182 :: 1 :: 44 :: t_Mo_sayNumber_54
abbrev t_Mo_sayNumber_50 : List UInt8 := 96 :: t_Mo_sayNumber_51
abbrev t_Mo_sayNumber_49 : List UInt8 := 112 :: t_Mo_sayNumber_50
abbrev t_Mo_sayNumber_47 : List UInt8 := 16 :: 10 :: t_Mo_sayNumber_49
abbrev t_Mo_sayNumber_46 : List UInt8 := 108 :: t_Mo_sayNumber_47
abbrev t_Mo_sayNumber_45 : List UInt8 := 29 :: t_Mo_sayNumber_46
abbrev t_Mo_sayNumber_44 : List UInt8 := 27 :: t_Mo_sayNumber_45
abbrev t_Mo_sayNumber_42 : List UInt8 := 16 :: 48 :: t_Mo_sayNumber_44
abbrev t_Mo_sayNumber_41 : List UInt8 := 42 :: t_Mo_sayNumber_42
abbrev t_Mo_sayNumber_38 : List UInt8 := 158 :: 0 :: 24 :: t_Mo_sayNumber_41
abbrev t_Mo_sayNumber_37 : List UInt8 := 29 :: t_Mo_sayNumber_38
abbrev t_Mo_sayNumber_36 : List UInt8 := 62 :: t_Mo_sayNumber_37
abbrev t_Mo_sayNumber_35 : List UInt8 := 28 :: t_Mo_sayNumber_36
abbrev t_Mo_sayNumber_32 : List UInt8 := 167 :: 255 :: 243 :: t_Mo_sayNumber_35
abbrev t_Mo_sayNumber_31 : List UInt8 := 61 :: t_Mo_sayNumber_32
abbrev t_Mo_sayNumber_30 : List UInt8 := 104 :: t_Mo_sayNumber_31
abbrev t_Mo_sayNumber_28 : List UInt8 := 16 :: 10 :: t_Mo_sayNumber_30
abbrev t_Mo_sayNumber_27 : List UInt8 := 28 :: t_Mo_sayNumber_28
abbrev t_Mo_sayNumber_24 : List UInt8 := 161 :: 0 :: 11 :: t_Mo_sayNumber_27
abbrev t_Mo_sayNumber_22 : List UInt8 := 16 :: 10 :: t_Mo_sayNumber_24
abbrev t_Mo_sayNumber_21 : List UInt8 := 108 :: t_Mo_sayNumber_22
abbrev t_Mo_sayNumber_20 : List UInt8 := 28 :: t_Mo_sayNumber_21
abbrev t_Mo_sayNumber_19 : List UInt8 := 27 :: t_Mo_sayNumber_20
abbrev t_Mo_sayNumber_18 : List UInt8 := 61 :: t_Mo_sayNumber_19
abbrev t_Mo_sayNumber_17 : List UInt8 := 4 :: t_Mo_sayNumber_18
abbrev t_Mo_sayNumber_16 : List UInt8 := 177 :: t_Mo_sayNumber_17
abbrev t_Mo_sayNumber_13 : List UInt8 := 182 :: 1 :: 44 :: t_Mo_sayNumber_16
abbrev t_Mo_sayNumber_11 : List UInt8 := 16 :: 45 :: t_Mo_sayNumber_13
abbrev t_Mo_sayNumber_10 : List UInt8 := 42 :: t_Mo_sayNumber_11
abbrev t_Mo_sayNumber_7 : List UInt8 := 156 :: 0 :: 10 :: t_Mo_sayNumber_10
abbrev t_Mo_sayNumber_6 : List UInt8 := 27 :: t_Mo_sayNumber_7
abbrev t_Mo_sayNumber_3 : List UInt8 := 182 :: 1 :: 44 :: t_Mo_sayNumber_6
abbrev t_Mo_sayNumber_1 : List UInt8 := 16 :: 32 :: t_Mo_sayNumber_3
abbrev t_Mo_sayNumber_0 : List UInt8 := 42 :: t_Mo_sayNumber_1
theorem a_Mo_sayNumber_0 : dk_at b_Mo_sayNumber 0 t_Mo_sayNumber_0 := dk_start (by decide +kernel)
theorem a_Mo_sayNumber_1 : dk_at b_Mo_sayNumber 1 t_Mo_sayNumber_1 := dk_go 1 a_Mo_sayNumber_0 rfl
theorem a_Mo_sayNumber_3 : dk_at b_Mo_sayNumber 3 t_Mo_sayNumber_3 := dk_go 2 a_Mo_sayNumber_1 rfl
theorem a_Mo_sayNumber_6 : dk_at b_Mo_sayNumber 6 t_Mo_sayNumber_6 := dk_go 3 a_Mo_sayNumber_3 rfl
theorem a_Mo_sayNumber_7 : dk_at b_Mo_sayNumber 7 t_Mo_sayNumber_7 := dk_go 1 a_Mo_sayNumber_6 rfl
theorem a_Mo_sayNumber_10 : dk_at b_Mo_sayNumber 10 t_Mo_sayNumber_10 := dk_go 3 a_Mo_sayNumber_7 rfl
theorem a_Mo_sayNumber_11 : dk_at b_Mo_sayNumber 11 t_Mo_sayNumber_11 := dk_go 1 a_Mo_sayNumber_10 rfl
theorem a_Mo_sayNumber_13 : dk_at b_Mo_sayNumber 13 t_Mo_sayNumber_13 := dk_go 2 a_Mo_sayNumber_11 rfl
theorem a_Mo_sayNumber_16 : dk_at b_Mo_sayNumber 16 t_Mo_sayNumber_16 := dk_go 3 a_Mo_sayNumber_13 rfl
theorem a_Mo_sayNumber_17 : dk_at b_Mo_sayNumber 17 t_Mo_sayNumber_17 := dk_go 1 a_Mo_sayNumber_16 rfl
theorem a_Mo_sayNumber_18 : dk_at b_Mo_sayNumber 18 t_Mo_sayNumber_18 := dk_go 1 a_Mo_sayNumber_17 rfl
theorem a_Mo_sayNumber_19 : dk_at b_Mo_sayNumber 19 t_Mo_sayNumber_19 := dk_go 1 a_Mo_sayNumber_18 rfl
theorem a_Mo_sayNumber_20 : dk_at b_Mo_sayNumber 20 t_Mo_sayNumber_20 := dk_go 1 a_Mo_sayNumber_19 rfl
theorem a_Mo_sayNumber_21 : dk_at b_Mo_sayNumber 21 t_Mo_sayNumber_21 := dk_go 1 a_Mo_sayNumber_20 rfl
theorem a_Mo_sayNumber_22 : dk_at b_Mo_sayNumber 22 t_Mo_sayNumber_22 := dk_go 1 a_Mo_sayNumber_21 rfl
theorem a_Mo_sayNumber_24 : dk_at b_Mo_sayNumber 24 t_Mo_sayNumber_24 := dk_go 2 a_Mo_sayNumber_22 rfl
theorem a_Mo_sayNumber_27 : dk_at b_Mo_sayNumber 27 t_Mo_sayNumber_27 := dk_go 3 a_Mo_sayNumber_24 rfl
theorem a_Mo_sayNumber_28 : dk_at b_Mo_sayNumber 28 t_Mo_sayNumber_28 := dk_go 1 a_Mo_sayNumber_27 rfl
theorem a_Mo_sayNumber_30 : dk_at b_Mo_sayNumber 30 t_Mo_sayNumber_30 := dk_go 2 a_Mo_sayNumber_28 rfl
theorem a_Mo_sayNumber_31 : dk_at b_Mo_sayNumber 31 t_Mo_sayNumber_31 := dk_go 1 a_Mo_sayNumber_30 rfl
theorem a_Mo_sayNumber_32 : dk_at b_Mo_sayNumber 32 t_Mo_sayNumber_32 := dk_go 1 a_Mo_sayNumber_31 rfl
theorem a_Mo_sayNumber_35 : dk_at b_Mo_sayNumber 35 t_Mo_sayNumber_35 := dk_go 3 a_Mo_sayNumber_32 rfl
theorem a_Mo_sayNumber_36 : dk_at b_Mo_sayNumber 36 t_Mo_sayNumber_36 := dk_go 1 a_Mo_sayNumber_35 rfl
theorem a_Mo_sayNumber_37 : dk_at b_Mo_sayNumber 37 t_Mo_sayNumber_37 := dk_go 1 a_Mo_sayNumber_36 rfl
theorem a_Mo_sayNumber_38 : dk_at b_Mo_sayNumber 38 t_Mo_sayNumber_38 := dk_go 1 a_Mo_sayNumber_37 rfl
theorem a_Mo_sayNumber_41 : dk_at b_Mo_sayNumber 41 t_Mo_sayNumber_41 := dk_go 3 a_Mo_sayNumber_38 rfl
theorem a_Mo_sayNumber_42 : dk_at b_Mo_sayNumber 42 t_Mo_sayNumber_42 := dk_go 1 a_Mo_sayNumber_41 rfl
theorem a_Mo_sayNumber_44 : dk_at b_Mo_sayNumber 44 t_Mo_sayNumber_44 := dk_go 2 a_Mo_sayNumber_42 rfl
theorem a_Mo_sayNumber_45 : dk_at b_Mo_sayNumber 45 t_Mo_sayNumber_45 := dk_go 1 a_Mo_sayNumber_44 rfl
theorem a_Mo_sayNumber_46 : dk_at b_Mo_sayNumber 46 t_Mo_sayNumber_46 := dk_go 1 a_Mo_sayNumber_45 rfl
theorem a_Mo_sayNumber_47 : dk_at b_Mo_sayNumber 47 t_Mo_sayNumber_47 := dk_go 1 a_Mo_sayNumber_46 rfl
theorem a_Mo_sayNumber_49 : dk_at b_Mo_sayNumber 49 t_Mo_sayNumber_49 := dk_go 2 a_Mo_sayNumber_47 rfl
theorem a_Mo_sayNumber_50 : dk_at b_Mo_sayNumber 50 t_Mo_sayNumber_50 := dk_go 1 a_Mo_sayNumber_49 rfl
theorem a_Mo_sayNumber_51 : dk_at b_Mo_sayNumber 51 t_Mo_sayNumber_51 := dk_go 1 a_Mo_sayNumber_50 rfl
theorem a_Mo_sayNumber_54 : dk_at b_Mo_sayNumber 54 t_Mo_sayNumber_54 := dk_go 3 a_Mo_sayNumber_51 rfl
theorem a_Mo_sayNumber_55 : dk_at b_Mo_sayNumber 55 t_Mo_sayNumber_55 := dk_go 1 a_Mo_sayNumber_54 rfl
theorem a_Mo_sayNumber_57 : dk_at b_Mo_sayNumber 57 t_Mo_sayNumber_57 := dk_go 2 a_Mo_sayNumber_55 rfl
theorem a_Mo_sayNumber_58 : dk_at b_Mo_sayNumber 58 t_Mo_sayNumber_58 := dk_go 1 a_Mo_sayNumber_57 rfl
theorem a_Mo_sayNumber_59 : dk_at b_Mo_sayNumber 59 t_Mo_sayNumber_59 := dk_go 1 a_Mo_sayNumber_58 rfl
theorem a_Mo_sayNumber_62 : dk_at b_Mo_sayNumber 62 t_Mo_sayNumber_62 := dk_go 3 a_Mo_sayNumber_59 rfl
theorem d_Mo_sayNumber_0 : decode b_Mo_sayNumber 0 = .ok (.aload_n 0, 1) := dk_0 a_Mo_sayNumber_0 (dko_42 _)
theorem d_Mo_sayNumber_1 : decode b_Mo_sayNumber 1 = .ok (.bipush 32, 2) := dk_S1 a_Mo_sayNumber_1 (dko_16 _) (by decide +kernel)
theorem d_Mo_sayNumber_3 : decode b_Mo_sayNumber 3 = .ok (.invokevirtual 300, 3) := dk_U2 a_Mo_sayNumber_3 (dko_182 _) rfl
theorem d_Mo_sayNumber_6 : decode b_Mo_sayNumber 6 = .ok (.iload_n 1, 1) := dk_0 a_Mo_sayNumber_6 (dko_27 _)
theorem d_Mo_sayNumber_7 : decode b_Mo_sayNumber 7 = .ok (.ifCond .ge 10, 3) := dk_S2 a_Mo_sayNumber_7 (dko_156 _) (by decide +kernel)
theorem d_Mo_sayNumber_10 : decode b_Mo_sayNumber 10 = .ok (.aload_n 0, 1) := dk_0 a_Mo_sayNumber_10 (dko_42 _)
theorem d_Mo_sayNumber_11 : decode b_Mo_sayNumber 11 = .ok (.bipush 45, 2) := dk_S1 a_Mo_sayNumber_11 (dko_16 _) (by decide +kernel)
theorem d_Mo_sayNumber_13 : decode b_Mo_sayNumber 13 = .ok (.invokevirtual 300, 3) := dk_U2 a_Mo_sayNumber_13 (dko_182 _) rfl
theorem d_Mo_sayNumber_16 : decode b_Mo_sayNumber 16 = .ok (.return_, 1) := dk_0 a_Mo_sayNumber_16 (dko_177 _)
theorem d_Mo_sayNumber_17 : decode b_Mo_sayNumber 17 = .ok (.iconst 1, 1) := dk_0 a_Mo_sayNumber_17 (dko_4 _)
theorem d_Mo_sayNumber_18 : decode b_Mo_sayNumber 18 = .ok (.istore_n 2, 1) := dk_0 a_Mo_sayNumber_18 (dko_61 _)
theorem d_Mo_sayNumber_19 : decode b_Mo_sayNumber 19 = .ok (.iload_n 1, 1) := dk_0 a_Mo_sayNumber_19 (dko_27 _)
theorem d_Mo_sayNumber_20 : decode b_Mo_sayNumber 20 = .ok (.iload_n 2, 1) := dk_0 a_Mo_sayNumber_20 (dko_28 _)
theorem d_Mo_sayNumber_21 : decode b_Mo_sayNumber 21 = .ok (.idiv, 1) := dk_0 a_Mo_sayNumber_21 (dko_108 _)
theorem d_Mo_sayNumber_22 : decode b_Mo_sayNumber 22 = .ok (.bipush 10, 2) := dk_S1 a_Mo_sayNumber_22 (dko_16 _) (by decide +kernel)
theorem d_Mo_sayNumber_24 : decode b_Mo_sayNumber 24 = .ok (.if_icmp .lt 11, 3) := dk_S2 a_Mo_sayNumber_24 (dko_161 _) (by decide +kernel)
theorem d_Mo_sayNumber_27 : decode b_Mo_sayNumber 27 = .ok (.iload_n 2, 1) := dk_0 a_Mo_sayNumber_27 (dko_28 _)
theorem d_Mo_sayNumber_28 : decode b_Mo_sayNumber 28 = .ok (.bipush 10, 2) := dk_S1 a_Mo_sayNumber_28 (dko_16 _) (by decide +kernel)
theorem d_Mo_sayNumber_30 : decode b_Mo_sayNumber 30 = .ok (.imul, 1) := dk_0 a_Mo_sayNumber_30 (dko_104 _)
theorem d_Mo_sayNumber_31 : decode b_Mo_sayNumber 31 = .ok (.istore_n 2, 1) := dk_0 a_Mo_sayNumber_31 (dko_61 _)
theorem d_Mo_sayNumber_32 : decode b_Mo_sayNumber 32 = .ok (.goto (-13), 3) := dk_S2 a_Mo_sayNumber_32 (dko_167 _) (by decide +kernel)
theorem d_Mo_sayNumber_35 : decode b_Mo_sayNumber 35 = .ok (.iload_n 2, 1) := dk_0 a_Mo_sayNumber_35 (dko_28 _)
theorem d_Mo_sayNumber_36 : decode b_Mo_sayNumber 36 = .ok (.istore_n 3, 1) := dk_0 a_Mo_sayNumber_36 (dko_62 _)
theorem d_Mo_sayNumber_37 : decode b_Mo_sayNumber 37 = .ok (.iload_n 3, 1) := dk_0 a_Mo_sayNumber_37 (dko_29 _)
theorem d_Mo_sayNumber_38 : decode b_Mo_sayNumber 38 = .ok (.ifCond .le 24, 3) := dk_S2 a_Mo_sayNumber_38 (dko_158 _) (by decide +kernel)
theorem d_Mo_sayNumber_41 : decode b_Mo_sayNumber 41 = .ok (.aload_n 0, 1) := dk_0 a_Mo_sayNumber_41 (dko_42 _)
theorem d_Mo_sayNumber_42 : decode b_Mo_sayNumber 42 = .ok (.bipush 48, 2) := dk_S1 a_Mo_sayNumber_42 (dko_16 _) (by decide +kernel)
theorem d_Mo_sayNumber_44 : decode b_Mo_sayNumber 44 = .ok (.iload_n 1, 1) := dk_0 a_Mo_sayNumber_44 (dko_27 _)
theorem d_Mo_sayNumber_45 : decode b_Mo_sayNumber 45 = .ok (.iload_n 3, 1) := dk_0 a_Mo_sayNumber_45 (dko_29 _)
theorem d_Mo_sayNumber_46 : decode b_Mo_sayNumber 46 = .ok (.idiv, 1) := dk_0 a_Mo_sayNumber_46 (dko_108 _)
theorem d_Mo_sayNumber_47 : decode b_Mo_sayNumber 47 = .ok (.bipush 10, 2) := dk_S1 a_Mo_sayNumber_47 (dko_16 _) (by decide +kernel)
theorem d_Mo_sayNumber_49 : decode b_Mo_sayNumber 49 = .ok (.irem, 1) := dk_0 a_Mo_sayNumber_49 (dko_112 _)
theorem d_Mo_sayNumber_50 : decode b_Mo_sayNumber 50 = .ok (.iadd, 1) := dk_0 a_Mo_sayNumber_50 (dko_96 _)
theorem d_Mo_sayNumber_51 : decode b_Mo_sayNumber 51 = .ok (.invokevirtual 300, 3) := dk_U2 a_Mo_sayNumber_51 (dko_182 _) rfl
theorem d_Mo_sayNumber_54 : decode b_Mo_sayNumber 54 = .ok (.iload_n 3, 1) := dk_0 a_Mo_sayNumber_54 (dko_29 _)
theorem d_Mo_sayNumber_55 : decode b_Mo_sayNumber 55 = .ok (.bipush 10, 2) := dk_S1 a_Mo_sayNumber_55 (dko_16 _) (by decide +kernel)
theorem d_Mo_sayNumber_57 : decode b_Mo_sayNumber 57 = .ok (.idiv, 1) := dk_0 a_Mo_sayNumber_57 (dko_108 _)
theorem d_Mo_sayNumber_58 : decode b_Mo_sayNumber 58 = .ok (.istore_n 3, 1) := dk_0 a_Mo_sayNumber_58 (dko_62 _)
theorem d_Mo_sayNumber_59 : decode b_Mo_sayNumber 59 = .ok (.goto (-22), 3) := dk_S2 a_Mo_sayNumber_59 (dko_167 _) (by decide +kernel)
theorem d_Mo_sayNumber_62 : decode b_Mo_sayNumber 62 = .ok (.return_, 1) := dk_0 a_Mo_sayNumber_62 (dko_177 _)
set_option maxHeartbeats 4000000 in
set_option maxRecDepth 100000 in
theorem ok_Mo_sayNumber (pc : Nat) : OpS mt mi_Mo_sayNumber pc (cs_Mo_sayNumber pc) := (os_n (os_n (os_n (os_n (os_n (os_l (so_aload_n d_Mo_sayNumber_0 rfl)) (os_l (so_bipush d_Mo_sayNumber_1 (by decide)))) (os_n (os_l (so_callV (iv := mi_Mo_letter) rfl rfl rfl mw_2356 mw_2358 sl_143 mw_18 mw_2359 ⟨by decide +kernel, by decide +kernel, by decide +kernel⟩ (by decide) d_Mo_sayNumber_3)) (os_n (os_l (so_iload_n d_Mo_sayNumber_6 rfl)) (os_l (so_ifge d_Mo_sayNumber_7 (by decide)))))) (os_n (os_n (os_l (so_aload_n d_Mo_sayNumber_10 rfl)) (os_l (so_bipush d_Mo_sayNumber_11 (by decide)))) (os_n (os_l (so_callV (iv := mi_Mo_letter) rfl rfl rfl mw_2356 mw_2358 sl_143 mw_18 mw_2359 ⟨by decide +kernel, by decide +kernel, by decide +kernel⟩ (by decide) d_Mo_sayNumber_13)) (os_n (os_l (so_return rfl d_Mo_sayNumber_16)) (os_l (so_iconst d_Mo_sayNumber_17 (by decide))))))) (os_n (os_n (os_n (os_l (so_istore_n d_Mo_sayNumber_18 rfl (by decide))) (os_l (so_iload_n d_Mo_sayNumber_19 rfl))) (os_n (os_l (so_iload_n d_Mo_sayNumber_20 rfl)) (os_n (os_l (so_idiv d_Mo_sayNumber_21)) (os_l (so_bipush d_Mo_sayNumber_22 (by decide)))))) (os_n (os_n (os_l (so_iclt d_Mo_sayNumber_24 (by decide))) (os_l (so_iload_n d_Mo_sayNumber_27 rfl))) (os_n (os_l (so_bipush d_Mo_sayNumber_28 (by decide))) (os_n (os_l (so_imul d_Mo_sayNumber_30)) (os_l (so_istore_n d_Mo_sayNumber_31 rfl (by decide)))))))) (os_n (os_n (os_n (os_n (os_l (so_goto d_Mo_sayNumber_32 (by decide))) (os_l (so_iload_n d_Mo_sayNumber_35 rfl))) (os_n (os_l (so_istore_n d_Mo_sayNumber_36 rfl (by decide))) (os_n (os_l (so_iload_n d_Mo_sayNumber_37 rfl)) (os_l (so_ifle d_Mo_sayNumber_38 (by decide)))))) (os_n (os_n (os_l (so_aload_n d_Mo_sayNumber_41 rfl)) (os_l (so_bipush d_Mo_sayNumber_42 (by decide)))) (os_n (os_l (so_iload_n d_Mo_sayNumber_44 rfl)) (os_n (os_l (so_iload_n d_Mo_sayNumber_45 rfl)) (os_l (so_idiv d_Mo_sayNumber_46)))))) (os_n (os_n (os_n (os_l (so_bipush d_Mo_sayNumber_47 (by decide))) (os_l (so_irem d_Mo_sayNumber_49))) (os_n (os_l (so_iadd d_Mo_sayNumber_50)) (os_n (os_l (so_callV (iv := mi_Mo_letter) rfl rfl rfl mw_2356 mw_2358 sl_143 mw_18 mw_2359 ⟨by decide +kernel, by decide +kernel, by decide +kernel⟩ (by decide) d_Mo_sayNumber_51)) (os_l (so_iload_n d_Mo_sayNumber_54 rfl))))) (os_n (os_n (os_l (so_bipush d_Mo_sayNumber_55 (by decide))) (os_l (so_idiv d_Mo_sayNumber_57))) (os_n (os_l (so_istore_n d_Mo_sayNumber_58 rfl (by decide))) (os_n (os_l (so_goto d_Mo_sayNumber_59 (by decide))) (os_l (so_return rfl d_Mo_sayNumber_62))))))))
abbrev t_Mo_write_187 : List UInt8 := 172 :: []
abbrev t_Mo_write_184 : List UInt8 := 180 :: 1 :: 41 :: t_Mo_write_187
abbrev t_Mo_write_183 : List UInt8 := 42 :: t_Mo_write_184
abbrev t_Mo_write_180 : List UInt8 := 167 :: 255 :: 192 :: t_Mo_write_183
abbrev t_Mo_write_177 : List UInt8 := 132 :: 2 :: 1 :: t_Mo_write_180
abbrev t_Mo_write_174 : List UInt8 := 182 :: 1 :: 44 :: t_Mo_write_177
abbrev t_Mo_write_172 : List UInt8 := 16 :: 10 :: t_Mo_write_174
abbrev t_Mo_write_171 : List UInt8 := 42 :: t_Mo_write_172
abbrev t_Mo_write_168 : List UInt8 := 182 :: 1 :: 53 :: t_Mo_write_171
abbrev t_Mo_write_167 : List UInt8 := 46 :: t_Mo_write_168
abbrev t_Mo_write_166 : List UInt8 := 28 :: t_Mo_write_167
abbrev t_Mo_write_163 : List UInt8 := 180 :: 0 :: 46 :: t_Mo_write_166
abbrev t_Mo_write_162 : List UInt8 := 42 :: t_Mo_write_163
abbrev t_Mo_write_161 : List UInt8 := 42 :: t_Mo_write_162
abbrev t_Mo_write_158 : List UInt8 := 182 :: 1 :: 53 :: t_Mo_write_161
abbrev t_Mo_write_157 : List UInt8 := 46 :: t_Mo_write_158
abbrev t_Mo_write_156 : List UInt8 := 96 :: t_Mo_write_157
abbrev t_Mo_write_155 : List UInt8 := 4 :: t_Mo_write_156
abbrev t_Mo_write_154 : List UInt8 := 104 :: t_Mo_write_155
abbrev t_Mo_write_153 : List UInt8 := 28 :: t_Mo_write_154
abbrev t_Mo_write_152 : List UInt8 := 5 :: t_Mo_write_153
abbrev t_Mo_write_149 : List UInt8 := 180 :: 0 :: 49 :: t_Mo_write_152
abbrev t_Mo_write_148 : List UInt8 := 42 :: t_Mo_write_149
abbrev t_Mo_write_147 : List UInt8 := 42 :: t_Mo_write_148
abbrev t_Mo_write_144 : List UInt8 := 182 :: 1 :: 53 :: t_Mo_write_147
abbrev t_Mo_write_143 : List UInt8 := 46 :: t_Mo_write_144
abbrev t_Mo_write_142 : List UInt8 := 104 :: t_Mo_write_143
abbrev t_Mo_write_141 : List UInt8 := 28 :: t_Mo_write_142
abbrev t_Mo_write_140 : List UInt8 := 5 :: t_Mo_write_141
abbrev t_Mo_write_137 : List UInt8 := 180 :: 0 :: 49 :: t_Mo_write_140
abbrev t_Mo_write_136 : List UInt8 := 42 :: t_Mo_write_137
abbrev t_Mo_write_135 : List UInt8 := 42 :: t_Mo_write_136
abbrev t_Mo_write_132 : List UInt8 := 182 :: 1 :: 49 :: t_Mo_write_135
abbrev t_Mo_write_129 : List UInt8 := 20 :: 1 :: 56 :: t_Mo_write_132
abbrev t_Mo_write_128 : List UInt8 := 42 :: t_Mo_write_129
abbrev t_Mo_write_125 : List UInt8 := 155 :: 0 :: 58 :: t_Mo_write_128
abbrev t_Mo_write_124 : List UInt8 := 27 :: t_Mo_write_125
abbrev t_Mo_write_121 : List UInt8 := 162 :: 0 :: 62 :: t_Mo_write_124
abbrev t_Mo_write_118 : List UInt8 := 180 :: 1 :: 25 :: t_Mo_write_121
abbrev t_Mo_write_117 : List UInt8 := 42 :: t_Mo_write_118
abbrev t_Mo_write_116 : List UInt8 := 28 :: t_Mo_write_117
abbrev t_Mo_write_115 : List UInt8 := 61 :: t_Mo_write_116
abbrev t_Mo_write_114 : List UInt8 := 3 :: t_Mo_write_115
abbrev t_Mo_write_111 : List UInt8 := 167 :: 255 :: 157 :: t_Mo_write_114
abbrev t_Mo_write_108 : List UInt8 := 132 :: 2 :: 1 :: t_Mo_write_111
abbrev t_Mo_write_105 : List UInt8 := 182 :: 1 :: 44 :: t_Mo_write_108
abbrev t_Mo_write_103 : List UInt8 := 16 :: 10 :: t_Mo_write_105
abbrev t_Mo_write_102 : List UInt8 := 42 :: t_Mo_write_103
abbrev t_Mo_write_99 : List UInt8 := 182 :: 1 :: 53 :: t_Mo_write_102
abbrev t_Mo_write_98 : List UInt8 := 100 :: t_Mo_write_99
abbrev t_Mo_write_97 : List UInt8 := 5 :: t_Mo_write_98
abbrev t_Mo_write_96 : List UInt8 := 46 :: t_Mo_write_97
abbrev t_Mo_write_95 : List UInt8 := 28 :: t_Mo_write_96
abbrev t_Mo_write_92 : List UInt8 := 180 :: 0 :: 27 :: t_Mo_write_95
abbrev t_Mo_write_91 : List UInt8 := 42 :: t_Mo_write_92
abbrev t_Mo_write_88 : List UInt8 := 167 :: 0 :: 11 :: t_Mo_write_91
abbrev t_Mo_write_87 : List UInt8 := 46 :: t_Mo_write_88
abbrev t_Mo_write_86 : List UInt8 := 28 :: t_Mo_write_87
abbrev t_Mo_write_83 : List UInt8 := 180 :: 0 :: 31 :: t_Mo_write_86
abbrev t_Mo_write_82 : List UInt8 := 42 :: t_Mo_write_83
abbrev t_Mo_write_79 : List UInt8 := 154 :: 0 :: 12 :: t_Mo_write_82
abbrev t_Mo_write_78 : List UInt8 := 46 :: t_Mo_write_79
abbrev t_Mo_write_77 : List UInt8 := 28 :: t_Mo_write_78
abbrev t_Mo_write_74 : List UInt8 := 180 :: 0 :: 27 :: t_Mo_write_77
abbrev t_Mo_write_73 : List UInt8 := 42 :: t_Mo_write_74
abbrev t_Mo_write_72 : List UInt8 := 42 :: t_Mo_write_73
abbrev t_Mo_write_69 : List UInt8 := 159 :: 0 :: 33 :: t_Mo_write_72
abbrev t_Mo_write_68 : List UInt8 := 4 :: t_Mo_write_69
abbrev t_Mo_write_67 : List UInt8 := 46 :: t_Mo_write_68
abbrev t_Mo_write_66 : List UInt8 := 28 :: t_Mo_write_67
abbrev t_Mo_write_63 : List UInt8 := 180 :: 0 :: 27 :: t_Mo_write_66
abbrev t_Mo_write_62 : List UInt8 := 42 :: t_Mo_write_63
abbrev t_Mo_write_59 : List UInt8 := 182 :: 1 :: 49 :: t_Mo_write_62
abbrev t_Mo_write_56 : List UInt8 := 20 :: 0 :: 249 :: t_Mo_write_59
abbrev t_Mo_write_53 : List UInt8 := 167 :: 0 :: 6 :: t_Mo_write_56
abbrev t_Mo_write_50 : List UInt8 := 20 :: 1 :: 47 :: t_Mo_write_53
abbrev t_Mo_write_47 : List UInt8 := 160 :: 0 :: 9 :: t_Mo_write_50
abbrev t_Mo_write_46 : List UInt8 := 4 :: t_Mo_write_47
abbrev t_Mo_write_45 : List UInt8 := 46 :: t_Mo_write_46
abbrev t_Mo_write_44 : List UInt8 := 28 :: t_Mo_write_45
abbrev t_Mo_write_41 : List UInt8 := 180 :: 0 :: 27 :: t_Mo_write_44
abbrev t_Mo_write_40 : List UInt8 := 42 :: t_Mo_write_41
abbrev t_Mo_write_37 : List UInt8 := 167 :: 0 :: 22 :: t_Mo_write_40
abbrev t_Mo_write_34 : List UInt8 := 20 :: 0 :: 247 :: t_Mo_write_37
abbrev t_Mo_write_31 : List UInt8 := 154 :: 0 :: 9 :: t_Mo_write_34
abbrev t_Mo_write_30 : List UInt8 := 46 :: t_Mo_write_31
abbrev t_Mo_write_29 : List UInt8 := 28 :: t_Mo_write_30
abbrev t_Mo_write_26 : List UInt8 := 180 :: 0 :: 27 :: t_Mo_write_29
abbrev t_Mo_write_25 : List UInt8 := 42 :: t_Mo_write_26
abbrev t_Mo_write_24 : List UInt8 := 42 :: t_Mo_write_25
abbrev t_Mo_write_21 : List UInt8 := 155 :: 0 :: 93 :: t_Mo_write_24
abbrev t_Mo_write_20 : List UInt8 := 27 :: t_Mo_write_21
abbrev t_Mo_write_17 : List UInt8 := 162 :: 0 :: 97 :: t_Mo_write_20
abbrev t_Mo_write_14 : List UInt8 := 180 :: 1 :: 22 :: t_Mo_write_17
abbrev t_Mo_write_13 : List UInt8 := 42 :: t_Mo_write_14
abbrev t_Mo_write_12 : List UInt8 := 28 :: t_Mo_write_13
abbrev t_Mo_write_11 : List UInt8 := 61 :: t_Mo_write_12
abbrev t_Mo_write_10 : List UInt8 := 3 :: t_Mo_write_11
abbrev t_Mo_write_7 : List UInt8 := 181 :: 1 :: 41 :: t_Mo_write_10
abbrev t_Mo_write_6 : List UInt8 := 2 :: t_Mo_write_7
abbrev t_Mo_write_5 : List UInt8 := 42 :: t_Mo_write_6
abbrev t_Mo_write_2 : List UInt8 := 181 :: 1 :: 38 :: t_Mo_write_5
abbrev t_Mo_write_1 : List UInt8 := 27 :: t_Mo_write_2
abbrev t_Mo_write_0 : List UInt8 := 42 :: t_Mo_write_1
theorem a_Mo_write_0 : dk_at b_Mo_write 0 t_Mo_write_0 := dk_start (by decide +kernel)
theorem a_Mo_write_1 : dk_at b_Mo_write 1 t_Mo_write_1 := dk_go 1 a_Mo_write_0 rfl
theorem a_Mo_write_2 : dk_at b_Mo_write 2 t_Mo_write_2 := dk_go 1 a_Mo_write_1 rfl
theorem a_Mo_write_5 : dk_at b_Mo_write 5 t_Mo_write_5 := dk_go 3 a_Mo_write_2 rfl
theorem a_Mo_write_6 : dk_at b_Mo_write 6 t_Mo_write_6 := dk_go 1 a_Mo_write_5 rfl
theorem a_Mo_write_7 : dk_at b_Mo_write 7 t_Mo_write_7 := dk_go 1 a_Mo_write_6 rfl
theorem a_Mo_write_10 : dk_at b_Mo_write 10 t_Mo_write_10 := dk_go 3 a_Mo_write_7 rfl
theorem a_Mo_write_11 : dk_at b_Mo_write 11 t_Mo_write_11 := dk_go 1 a_Mo_write_10 rfl
theorem a_Mo_write_12 : dk_at b_Mo_write 12 t_Mo_write_12 := dk_go 1 a_Mo_write_11 rfl
theorem a_Mo_write_13 : dk_at b_Mo_write 13 t_Mo_write_13 := dk_go 1 a_Mo_write_12 rfl
theorem a_Mo_write_14 : dk_at b_Mo_write 14 t_Mo_write_14 := dk_go 1 a_Mo_write_13 rfl
theorem a_Mo_write_17 : dk_at b_Mo_write 17 t_Mo_write_17 := dk_go 3 a_Mo_write_14 rfl
theorem a_Mo_write_20 : dk_at b_Mo_write 20 t_Mo_write_20 := dk_go 3 a_Mo_write_17 rfl
theorem a_Mo_write_21 : dk_at b_Mo_write 21 t_Mo_write_21 := dk_go 1 a_Mo_write_20 rfl
theorem a_Mo_write_24 : dk_at b_Mo_write 24 t_Mo_write_24 := dk_go 3 a_Mo_write_21 rfl
theorem a_Mo_write_25 : dk_at b_Mo_write 25 t_Mo_write_25 := dk_go 1 a_Mo_write_24 rfl
theorem a_Mo_write_26 : dk_at b_Mo_write 26 t_Mo_write_26 := dk_go 1 a_Mo_write_25 rfl
theorem a_Mo_write_29 : dk_at b_Mo_write 29 t_Mo_write_29 := dk_go 3 a_Mo_write_26 rfl
theorem a_Mo_write_30 : dk_at b_Mo_write 30 t_Mo_write_30 := dk_go 1 a_Mo_write_29 rfl
theorem a_Mo_write_31 : dk_at b_Mo_write 31 t_Mo_write_31 := dk_go 1 a_Mo_write_30 rfl
theorem a_Mo_write_34 : dk_at b_Mo_write 34 t_Mo_write_34 := dk_go 3 a_Mo_write_31 rfl
theorem a_Mo_write_37 : dk_at b_Mo_write 37 t_Mo_write_37 := dk_go 3 a_Mo_write_34 rfl
theorem a_Mo_write_40 : dk_at b_Mo_write 40 t_Mo_write_40 := dk_go 3 a_Mo_write_37 rfl
theorem a_Mo_write_41 : dk_at b_Mo_write 41 t_Mo_write_41 := dk_go 1 a_Mo_write_40 rfl
theorem a_Mo_write_44 : dk_at b_Mo_write 44 t_Mo_write_44 := dk_go 3 a_Mo_write_41 rfl
theorem a_Mo_write_45 : dk_at b_Mo_write 45 t_Mo_write_45 := dk_go 1 a_Mo_write_44 rfl
theorem a_Mo_write_46 : dk_at b_Mo_write 46 t_Mo_write_46 := dk_go 1 a_Mo_write_45 rfl
theorem a_Mo_write_47 : dk_at b_Mo_write 47 t_Mo_write_47 := dk_go 1 a_Mo_write_46 rfl
theorem a_Mo_write_50 : dk_at b_Mo_write 50 t_Mo_write_50 := dk_go 3 a_Mo_write_47 rfl
theorem a_Mo_write_53 : dk_at b_Mo_write 53 t_Mo_write_53 := dk_go 3 a_Mo_write_50 rfl
theorem a_Mo_write_56 : dk_at b_Mo_write 56 t_Mo_write_56 := dk_go 3 a_Mo_write_53 rfl
theorem a_Mo_write_59 : dk_at b_Mo_write 59 t_Mo_write_59 := dk_go 3 a_Mo_write_56 rfl
theorem a_Mo_write_62 : dk_at b_Mo_write 62 t_Mo_write_62 := dk_go 3 a_Mo_write_59 rfl
theorem a_Mo_write_63 : dk_at b_Mo_write 63 t_Mo_write_63 := dk_go 1 a_Mo_write_62 rfl
theorem a_Mo_write_66 : dk_at b_Mo_write 66 t_Mo_write_66 := dk_go 3 a_Mo_write_63 rfl
theorem a_Mo_write_67 : dk_at b_Mo_write 67 t_Mo_write_67 := dk_go 1 a_Mo_write_66 rfl
theorem a_Mo_write_68 : dk_at b_Mo_write 68 t_Mo_write_68 := dk_go 1 a_Mo_write_67 rfl
theorem a_Mo_write_69 : dk_at b_Mo_write 69 t_Mo_write_69 := dk_go 1 a_Mo_write_68 rfl
theorem a_Mo_write_72 : dk_at b_Mo_write 72 t_Mo_write_72 := dk_go 3 a_Mo_write_69 rfl
theorem a_Mo_write_73 : dk_at b_Mo_write 73 t_Mo_write_73 := dk_go 1 a_Mo_write_72 rfl
theorem a_Mo_write_74 : dk_at b_Mo_write 74 t_Mo_write_74 := dk_go 1 a_Mo_write_73 rfl
theorem a_Mo_write_77 : dk_at b_Mo_write 77 t_Mo_write_77 := dk_go 3 a_Mo_write_74 rfl
theorem a_Mo_write_78 : dk_at b_Mo_write 78 t_Mo_write_78 := dk_go 1 a_Mo_write_77 rfl
theorem a_Mo_write_79 : dk_at b_Mo_write 79 t_Mo_write_79 := dk_go 1 a_Mo_write_78 rfl
theorem a_Mo_write_82 : dk_at b_Mo_write 82 t_Mo_write_82 := dk_go 3 a_Mo_write_79 rfl
theorem a_Mo_write_83 : dk_at b_Mo_write 83 t_Mo_write_83 := dk_go 1 a_Mo_write_82 rfl
theorem a_Mo_write_86 : dk_at b_Mo_write 86 t_Mo_write_86 := dk_go 3 a_Mo_write_83 rfl
theorem a_Mo_write_87 : dk_at b_Mo_write 87 t_Mo_write_87 := dk_go 1 a_Mo_write_86 rfl
theorem a_Mo_write_88 : dk_at b_Mo_write 88 t_Mo_write_88 := dk_go 1 a_Mo_write_87 rfl
theorem a_Mo_write_91 : dk_at b_Mo_write 91 t_Mo_write_91 := dk_go 3 a_Mo_write_88 rfl
theorem a_Mo_write_92 : dk_at b_Mo_write 92 t_Mo_write_92 := dk_go 1 a_Mo_write_91 rfl
theorem a_Mo_write_95 : dk_at b_Mo_write 95 t_Mo_write_95 := dk_go 3 a_Mo_write_92 rfl
theorem a_Mo_write_96 : dk_at b_Mo_write 96 t_Mo_write_96 := dk_go 1 a_Mo_write_95 rfl
theorem a_Mo_write_97 : dk_at b_Mo_write 97 t_Mo_write_97 := dk_go 1 a_Mo_write_96 rfl
theorem a_Mo_write_98 : dk_at b_Mo_write 98 t_Mo_write_98 := dk_go 1 a_Mo_write_97 rfl
theorem a_Mo_write_99 : dk_at b_Mo_write 99 t_Mo_write_99 := dk_go 1 a_Mo_write_98 rfl
theorem a_Mo_write_102 : dk_at b_Mo_write 102 t_Mo_write_102 := dk_go 3 a_Mo_write_99 rfl
theorem a_Mo_write_103 : dk_at b_Mo_write 103 t_Mo_write_103 := dk_go 1 a_Mo_write_102 rfl
theorem a_Mo_write_105 : dk_at b_Mo_write 105 t_Mo_write_105 := dk_go 2 a_Mo_write_103 rfl
theorem a_Mo_write_108 : dk_at b_Mo_write 108 t_Mo_write_108 := dk_go 3 a_Mo_write_105 rfl
theorem a_Mo_write_111 : dk_at b_Mo_write 111 t_Mo_write_111 := dk_go 3 a_Mo_write_108 rfl
theorem a_Mo_write_114 : dk_at b_Mo_write 114 t_Mo_write_114 := dk_go 3 a_Mo_write_111 rfl
theorem a_Mo_write_115 : dk_at b_Mo_write 115 t_Mo_write_115 := dk_go 1 a_Mo_write_114 rfl
theorem a_Mo_write_116 : dk_at b_Mo_write 116 t_Mo_write_116 := dk_go 1 a_Mo_write_115 rfl
theorem a_Mo_write_117 : dk_at b_Mo_write 117 t_Mo_write_117 := dk_go 1 a_Mo_write_116 rfl
theorem a_Mo_write_118 : dk_at b_Mo_write 118 t_Mo_write_118 := dk_go 1 a_Mo_write_117 rfl
theorem a_Mo_write_121 : dk_at b_Mo_write 121 t_Mo_write_121 := dk_go 3 a_Mo_write_118 rfl
theorem a_Mo_write_124 : dk_at b_Mo_write 124 t_Mo_write_124 := dk_go 3 a_Mo_write_121 rfl
theorem a_Mo_write_125 : dk_at b_Mo_write 125 t_Mo_write_125 := dk_go 1 a_Mo_write_124 rfl
theorem a_Mo_write_128 : dk_at b_Mo_write 128 t_Mo_write_128 := dk_go 3 a_Mo_write_125 rfl
theorem a_Mo_write_129 : dk_at b_Mo_write 129 t_Mo_write_129 := dk_go 1 a_Mo_write_128 rfl
theorem a_Mo_write_132 : dk_at b_Mo_write 132 t_Mo_write_132 := dk_go 3 a_Mo_write_129 rfl
theorem a_Mo_write_135 : dk_at b_Mo_write 135 t_Mo_write_135 := dk_go 3 a_Mo_write_132 rfl
theorem a_Mo_write_136 : dk_at b_Mo_write 136 t_Mo_write_136 := dk_go 1 a_Mo_write_135 rfl
theorem a_Mo_write_137 : dk_at b_Mo_write 137 t_Mo_write_137 := dk_go 1 a_Mo_write_136 rfl
theorem a_Mo_write_140 : dk_at b_Mo_write 140 t_Mo_write_140 := dk_go 3 a_Mo_write_137 rfl
theorem a_Mo_write_141 : dk_at b_Mo_write 141 t_Mo_write_141 := dk_go 1 a_Mo_write_140 rfl
theorem a_Mo_write_142 : dk_at b_Mo_write 142 t_Mo_write_142 := dk_go 1 a_Mo_write_141 rfl
theorem a_Mo_write_143 : dk_at b_Mo_write 143 t_Mo_write_143 := dk_go 1 a_Mo_write_142 rfl
theorem a_Mo_write_144 : dk_at b_Mo_write 144 t_Mo_write_144 := dk_go 1 a_Mo_write_143 rfl
theorem a_Mo_write_147 : dk_at b_Mo_write 147 t_Mo_write_147 := dk_go 3 a_Mo_write_144 rfl
theorem a_Mo_write_148 : dk_at b_Mo_write 148 t_Mo_write_148 := dk_go 1 a_Mo_write_147 rfl
theorem a_Mo_write_149 : dk_at b_Mo_write 149 t_Mo_write_149 := dk_go 1 a_Mo_write_148 rfl
theorem a_Mo_write_152 : dk_at b_Mo_write 152 t_Mo_write_152 := dk_go 3 a_Mo_write_149 rfl
theorem a_Mo_write_153 : dk_at b_Mo_write 153 t_Mo_write_153 := dk_go 1 a_Mo_write_152 rfl
theorem a_Mo_write_154 : dk_at b_Mo_write 154 t_Mo_write_154 := dk_go 1 a_Mo_write_153 rfl
theorem a_Mo_write_155 : dk_at b_Mo_write 155 t_Mo_write_155 := dk_go 1 a_Mo_write_154 rfl
theorem a_Mo_write_156 : dk_at b_Mo_write 156 t_Mo_write_156 := dk_go 1 a_Mo_write_155 rfl
theorem a_Mo_write_157 : dk_at b_Mo_write 157 t_Mo_write_157 := dk_go 1 a_Mo_write_156 rfl
theorem a_Mo_write_158 : dk_at b_Mo_write 158 t_Mo_write_158 := dk_go 1 a_Mo_write_157 rfl
theorem a_Mo_write_161 : dk_at b_Mo_write 161 t_Mo_write_161 := dk_go 3 a_Mo_write_158 rfl
theorem a_Mo_write_162 : dk_at b_Mo_write 162 t_Mo_write_162 := dk_go 1 a_Mo_write_161 rfl
theorem a_Mo_write_163 : dk_at b_Mo_write 163 t_Mo_write_163 := dk_go 1 a_Mo_write_162 rfl
theorem a_Mo_write_166 : dk_at b_Mo_write 166 t_Mo_write_166 := dk_go 3 a_Mo_write_163 rfl
theorem a_Mo_write_167 : dk_at b_Mo_write 167 t_Mo_write_167 := dk_go 1 a_Mo_write_166 rfl
theorem a_Mo_write_168 : dk_at b_Mo_write 168 t_Mo_write_168 := dk_go 1 a_Mo_write_167 rfl
theorem a_Mo_write_171 : dk_at b_Mo_write 171 t_Mo_write_171 := dk_go 3 a_Mo_write_168 rfl
theorem a_Mo_write_172 : dk_at b_Mo_write 172 t_Mo_write_172 := dk_go 1 a_Mo_write_171 rfl
theorem a_Mo_write_174 : dk_at b_Mo_write 174 t_Mo_write_174 := dk_go 2 a_Mo_write_172 rfl
theorem a_Mo_write_177 : dk_at b_Mo_write 177 t_Mo_write_177 := dk_go 3 a_Mo_write_174 rfl
theorem a_Mo_write_180 : dk_at b_Mo_write 180 t_Mo_write_180 := dk_go 3 a_Mo_write_177 rfl
theorem a_Mo_write_183 : dk_at b_Mo_write 183 t_Mo_write_183 := dk_go 3 a_Mo_write_180 rfl
theorem a_Mo_write_184 : dk_at b_Mo_write 184 t_Mo_write_184 := dk_go 1 a_Mo_write_183 rfl
theorem a_Mo_write_187 : dk_at b_Mo_write 187 t_Mo_write_187 := dk_go 3 a_Mo_write_184 rfl
theorem d_Mo_write_0 : decode b_Mo_write 0 = .ok (.aload_n 0, 1) := dk_0 a_Mo_write_0 (dko_42 _)
theorem d_Mo_write_1 : decode b_Mo_write 1 = .ok (.iload_n 1, 1) := dk_0 a_Mo_write_1 (dko_27 _)
theorem d_Mo_write_2 : decode b_Mo_write 2 = .ok (.putfield 294, 3) := dk_U2 a_Mo_write_2 (dko_181 _) rfl
theorem d_Mo_write_5 : decode b_Mo_write 5 = .ok (.aload_n 0, 1) := dk_0 a_Mo_write_5 (dko_42 _)
theorem d_Mo_write_6 : decode b_Mo_write 6 = .ok (.iconst (-1), 1) := dk_0 a_Mo_write_6 (dko_2 _)
theorem d_Mo_write_7 : decode b_Mo_write 7 = .ok (.putfield 297, 3) := dk_U2 a_Mo_write_7 (dko_181 _) rfl
theorem d_Mo_write_10 : decode b_Mo_write 10 = .ok (.iconst 0, 1) := dk_0 a_Mo_write_10 (dko_3 _)
theorem d_Mo_write_11 : decode b_Mo_write 11 = .ok (.istore_n 2, 1) := dk_0 a_Mo_write_11 (dko_61 _)
theorem d_Mo_write_12 : decode b_Mo_write 12 = .ok (.iload_n 2, 1) := dk_0 a_Mo_write_12 (dko_28 _)
theorem d_Mo_write_13 : decode b_Mo_write 13 = .ok (.aload_n 0, 1) := dk_0 a_Mo_write_13 (dko_42 _)
theorem d_Mo_write_14 : decode b_Mo_write 14 = .ok (.getfield 278, 3) := dk_U2 a_Mo_write_14 (dko_180 _) rfl
theorem d_Mo_write_17 : decode b_Mo_write 17 = .ok (.if_icmp .ge 97, 3) := dk_S2 a_Mo_write_17 (dko_162 _) (by decide +kernel)
theorem d_Mo_write_20 : decode b_Mo_write 20 = .ok (.iload_n 1, 1) := dk_0 a_Mo_write_20 (dko_27 _)
theorem d_Mo_write_21 : decode b_Mo_write 21 = .ok (.ifCond .lt 93, 3) := dk_S2 a_Mo_write_21 (dko_155 _) (by decide +kernel)
theorem d_Mo_write_24 : decode b_Mo_write 24 = .ok (.aload_n 0, 1) := dk_0 a_Mo_write_24 (dko_42 _)
theorem d_Mo_write_25 : decode b_Mo_write 25 = .ok (.aload_n 0, 1) := dk_0 a_Mo_write_25 (dko_42 _)
theorem d_Mo_write_26 : decode b_Mo_write 26 = .ok (.getfield 27, 3) := dk_U2 a_Mo_write_26 (dko_180 _) rfl
theorem d_Mo_write_29 : decode b_Mo_write 29 = .ok (.iload_n 2, 1) := dk_0 a_Mo_write_29 (dko_28 _)
theorem d_Mo_write_30 : decode b_Mo_write 30 = .ok (.iaload, 1) := dk_0 a_Mo_write_30 (dko_46 _)
theorem d_Mo_write_31 : decode b_Mo_write 31 = .ok (.ifCond .ne 9, 3) := dk_S2 a_Mo_write_31 (dko_154 _) (by decide +kernel)
theorem d_Mo_write_34 : decode b_Mo_write 34 = .ok (.ldc2_w 247, 3) := dk_U2 a_Mo_write_34 (dko_20 _) rfl
theorem d_Mo_write_37 : decode b_Mo_write 37 = .ok (.goto 22, 3) := dk_S2 a_Mo_write_37 (dko_167 _) (by decide +kernel)
theorem d_Mo_write_40 : decode b_Mo_write 40 = .ok (.aload_n 0, 1) := dk_0 a_Mo_write_40 (dko_42 _)
theorem d_Mo_write_41 : decode b_Mo_write 41 = .ok (.getfield 27, 3) := dk_U2 a_Mo_write_41 (dko_180 _) rfl
theorem d_Mo_write_44 : decode b_Mo_write 44 = .ok (.iload_n 2, 1) := dk_0 a_Mo_write_44 (dko_28 _)
theorem d_Mo_write_45 : decode b_Mo_write 45 = .ok (.iaload, 1) := dk_0 a_Mo_write_45 (dko_46 _)
theorem d_Mo_write_46 : decode b_Mo_write 46 = .ok (.iconst 1, 1) := dk_0 a_Mo_write_46 (dko_4 _)
theorem d_Mo_write_47 : decode b_Mo_write 47 = .ok (.if_icmp .ne 9, 3) := dk_S2 a_Mo_write_47 (dko_160 _) (by decide +kernel)
theorem d_Mo_write_50 : decode b_Mo_write 50 = .ok (.ldc2_w 303, 3) := dk_U2 a_Mo_write_50 (dko_20 _) rfl
theorem d_Mo_write_53 : decode b_Mo_write 53 = .ok (.goto 6, 3) := dk_S2 a_Mo_write_53 (dko_167 _) (by decide +kernel)
theorem d_Mo_write_56 : decode b_Mo_write 56 = .ok (.ldc2_w 249, 3) := dk_U2 a_Mo_write_56 (dko_20 _) rfl
theorem d_Mo_write_59 : decode b_Mo_write 59 = .ok (.invokevirtual 305, 3) := dk_U2 a_Mo_write_59 (dko_182 _) rfl
theorem d_Mo_write_62 : decode b_Mo_write 62 = .ok (.aload_n 0, 1) := dk_0 a_Mo_write_62 (dko_42 _)
theorem d_Mo_write_63 : decode b_Mo_write 63 = .ok (.getfield 27, 3) := dk_U2 a_Mo_write_63 (dko_180 _) rfl
theorem d_Mo_write_66 : decode b_Mo_write 66 = .ok (.iload_n 2, 1) := dk_0 a_Mo_write_66 (dko_28 _)
theorem d_Mo_write_67 : decode b_Mo_write 67 = .ok (.iaload, 1) := dk_0 a_Mo_write_67 (dko_46 _)
theorem d_Mo_write_68 : decode b_Mo_write 68 = .ok (.iconst 1, 1) := dk_0 a_Mo_write_68 (dko_4 _)
theorem d_Mo_write_69 : decode b_Mo_write 69 = .ok (.if_icmp .eq 33, 3) := dk_S2 a_Mo_write_69 (dko_159 _) (by decide +kernel)
theorem d_Mo_write_72 : decode b_Mo_write 72 = .ok (.aload_n 0, 1) := dk_0 a_Mo_write_72 (dko_42 _)
theorem d_Mo_write_73 : decode b_Mo_write 73 = .ok (.aload_n 0, 1) := dk_0 a_Mo_write_73 (dko_42 _)
theorem d_Mo_write_74 : decode b_Mo_write 74 = .ok (.getfield 27, 3) := dk_U2 a_Mo_write_74 (dko_180 _) rfl
theorem d_Mo_write_77 : decode b_Mo_write 77 = .ok (.iload_n 2, 1) := dk_0 a_Mo_write_77 (dko_28 _)
theorem d_Mo_write_78 : decode b_Mo_write 78 = .ok (.iaload, 1) := dk_0 a_Mo_write_78 (dko_46 _)
theorem d_Mo_write_79 : decode b_Mo_write 79 = .ok (.ifCond .ne 12, 3) := dk_S2 a_Mo_write_79 (dko_154 _) (by decide +kernel)
theorem d_Mo_write_82 : decode b_Mo_write 82 = .ok (.aload_n 0, 1) := dk_0 a_Mo_write_82 (dko_42 _)
theorem d_Mo_write_83 : decode b_Mo_write 83 = .ok (.getfield 31, 3) := dk_U2 a_Mo_write_83 (dko_180 _) rfl
theorem d_Mo_write_86 : decode b_Mo_write 86 = .ok (.iload_n 2, 1) := dk_0 a_Mo_write_86 (dko_28 _)
theorem d_Mo_write_87 : decode b_Mo_write 87 = .ok (.iaload, 1) := dk_0 a_Mo_write_87 (dko_46 _)
theorem d_Mo_write_88 : decode b_Mo_write 88 = .ok (.goto 11, 3) := dk_S2 a_Mo_write_88 (dko_167 _) (by decide +kernel)
theorem d_Mo_write_91 : decode b_Mo_write 91 = .ok (.aload_n 0, 1) := dk_0 a_Mo_write_91 (dko_42 _)
theorem d_Mo_write_92 : decode b_Mo_write 92 = .ok (.getfield 27, 3) := dk_U2 a_Mo_write_92 (dko_180 _) rfl
theorem d_Mo_write_95 : decode b_Mo_write 95 = .ok (.iload_n 2, 1) := dk_0 a_Mo_write_95 (dko_28 _)
theorem d_Mo_write_96 : decode b_Mo_write 96 = .ok (.iaload, 1) := dk_0 a_Mo_write_96 (dko_46 _)
theorem d_Mo_write_97 : decode b_Mo_write 97 = .ok (.iconst 2, 1) := dk_0 a_Mo_write_97 (dko_5 _)
theorem d_Mo_write_98 : decode b_Mo_write 98 = .ok (.isub, 1) := dk_0 a_Mo_write_98 (dko_100 _)
theorem d_Mo_write_99 : decode b_Mo_write 99 = .ok (.invokevirtual 309, 3) := dk_U2 a_Mo_write_99 (dko_182 _) rfl
theorem d_Mo_write_102 : decode b_Mo_write 102 = .ok (.aload_n 0, 1) := dk_0 a_Mo_write_102 (dko_42 _)
theorem d_Mo_write_103 : decode b_Mo_write 103 = .ok (.bipush 10, 2) := dk_S1 a_Mo_write_103 (dko_16 _) (by decide +kernel)
theorem d_Mo_write_105 : decode b_Mo_write 105 = .ok (.invokevirtual 300, 3) := dk_U2 a_Mo_write_105 (dko_182 _) rfl
theorem d_Mo_write_108 : decode b_Mo_write 108 = .ok (.iinc 2 1, 3) := dk_US a_Mo_write_108 (dko_132 _) (by decide +kernel)
theorem d_Mo_write_111 : decode b_Mo_write 111 = .ok (.goto (-99), 3) := dk_S2 a_Mo_write_111 (dko_167 _) (by decide +kernel)
theorem d_Mo_write_114 : decode b_Mo_write 114 = .ok (.iconst 0, 1) := dk_0 a_Mo_write_114 (dko_3 _)
theorem d_Mo_write_115 : decode b_Mo_write 115 = .ok (.istore_n 2, 1) := dk_0 a_Mo_write_115 (dko_61 _)
theorem d_Mo_write_116 : decode b_Mo_write 116 = .ok (.iload_n 2, 1) := dk_0 a_Mo_write_116 (dko_28 _)
theorem d_Mo_write_117 : decode b_Mo_write 117 = .ok (.aload_n 0, 1) := dk_0 a_Mo_write_117 (dko_42 _)
theorem d_Mo_write_118 : decode b_Mo_write 118 = .ok (.getfield 281, 3) := dk_U2 a_Mo_write_118 (dko_180 _) rfl
theorem d_Mo_write_121 : decode b_Mo_write 121 = .ok (.if_icmp .ge 62, 3) := dk_S2 a_Mo_write_121 (dko_162 _) (by decide +kernel)
theorem d_Mo_write_124 : decode b_Mo_write 124 = .ok (.iload_n 1, 1) := dk_0 a_Mo_write_124 (dko_27 _)
theorem d_Mo_write_125 : decode b_Mo_write 125 = .ok (.ifCond .lt 58, 3) := dk_S2 a_Mo_write_125 (dko_155 _) (by decide +kernel)
theorem d_Mo_write_128 : decode b_Mo_write 128 = .ok (.aload_n 0, 1) := dk_0 a_Mo_write_128 (dko_42 _)
theorem d_Mo_write_129 : decode b_Mo_write 129 = .ok (.ldc2_w 312, 3) := dk_U2 a_Mo_write_129 (dko_20 _) rfl
theorem d_Mo_write_132 : decode b_Mo_write 132 = .ok (.invokevirtual 305, 3) := dk_U2 a_Mo_write_132 (dko_182 _) rfl
theorem d_Mo_write_135 : decode b_Mo_write 135 = .ok (.aload_n 0, 1) := dk_0 a_Mo_write_135 (dko_42 _)
theorem d_Mo_write_136 : decode b_Mo_write 136 = .ok (.aload_n 0, 1) := dk_0 a_Mo_write_136 (dko_42 _)
theorem d_Mo_write_137 : decode b_Mo_write 137 = .ok (.getfield 49, 3) := dk_U2 a_Mo_write_137 (dko_180 _) rfl
theorem d_Mo_write_140 : decode b_Mo_write 140 = .ok (.iconst 2, 1) := dk_0 a_Mo_write_140 (dko_5 _)
theorem d_Mo_write_141 : decode b_Mo_write 141 = .ok (.iload_n 2, 1) := dk_0 a_Mo_write_141 (dko_28 _)
theorem d_Mo_write_142 : decode b_Mo_write 142 = .ok (.imul, 1) := dk_0 a_Mo_write_142 (dko_104 _)
theorem d_Mo_write_143 : decode b_Mo_write 143 = .ok (.iaload, 1) := dk_0 a_Mo_write_143 (dko_46 _)
theorem d_Mo_write_144 : decode b_Mo_write 144 = .ok (.invokevirtual 309, 3) := dk_U2 a_Mo_write_144 (dko_182 _) rfl
theorem d_Mo_write_147 : decode b_Mo_write 147 = .ok (.aload_n 0, 1) := dk_0 a_Mo_write_147 (dko_42 _)
theorem d_Mo_write_148 : decode b_Mo_write 148 = .ok (.aload_n 0, 1) := dk_0 a_Mo_write_148 (dko_42 _)
theorem d_Mo_write_149 : decode b_Mo_write 149 = .ok (.getfield 49, 3) := dk_U2 a_Mo_write_149 (dko_180 _) rfl
theorem d_Mo_write_152 : decode b_Mo_write 152 = .ok (.iconst 2, 1) := dk_0 a_Mo_write_152 (dko_5 _)
theorem d_Mo_write_153 : decode b_Mo_write 153 = .ok (.iload_n 2, 1) := dk_0 a_Mo_write_153 (dko_28 _)
theorem d_Mo_write_154 : decode b_Mo_write 154 = .ok (.imul, 1) := dk_0 a_Mo_write_154 (dko_104 _)
theorem d_Mo_write_155 : decode b_Mo_write 155 = .ok (.iconst 1, 1) := dk_0 a_Mo_write_155 (dko_4 _)
theorem d_Mo_write_156 : decode b_Mo_write 156 = .ok (.iadd, 1) := dk_0 a_Mo_write_156 (dko_96 _)
theorem d_Mo_write_157 : decode b_Mo_write 157 = .ok (.iaload, 1) := dk_0 a_Mo_write_157 (dko_46 _)
theorem d_Mo_write_158 : decode b_Mo_write 158 = .ok (.invokevirtual 309, 3) := dk_U2 a_Mo_write_158 (dko_182 _) rfl
theorem d_Mo_write_161 : decode b_Mo_write 161 = .ok (.aload_n 0, 1) := dk_0 a_Mo_write_161 (dko_42 _)
theorem d_Mo_write_162 : decode b_Mo_write 162 = .ok (.aload_n 0, 1) := dk_0 a_Mo_write_162 (dko_42 _)
theorem d_Mo_write_163 : decode b_Mo_write 163 = .ok (.getfield 46, 3) := dk_U2 a_Mo_write_163 (dko_180 _) rfl
theorem d_Mo_write_166 : decode b_Mo_write 166 = .ok (.iload_n 2, 1) := dk_0 a_Mo_write_166 (dko_28 _)
theorem d_Mo_write_167 : decode b_Mo_write 167 = .ok (.iaload, 1) := dk_0 a_Mo_write_167 (dko_46 _)
theorem d_Mo_write_168 : decode b_Mo_write 168 = .ok (.invokevirtual 309, 3) := dk_U2 a_Mo_write_168 (dko_182 _) rfl
theorem d_Mo_write_171 : decode b_Mo_write 171 = .ok (.aload_n 0, 1) := dk_0 a_Mo_write_171 (dko_42 _)
theorem d_Mo_write_172 : decode b_Mo_write 172 = .ok (.bipush 10, 2) := dk_S1 a_Mo_write_172 (dko_16 _) (by decide +kernel)
theorem d_Mo_write_174 : decode b_Mo_write 174 = .ok (.invokevirtual 300, 3) := dk_U2 a_Mo_write_174 (dko_182 _) rfl
theorem d_Mo_write_177 : decode b_Mo_write 177 = .ok (.iinc 2 1, 3) := dk_US a_Mo_write_177 (dko_132 _) (by decide +kernel)
theorem d_Mo_write_180 : decode b_Mo_write 180 = .ok (.goto (-64), 3) := dk_S2 a_Mo_write_180 (dko_167 _) (by decide +kernel)
theorem d_Mo_write_183 : decode b_Mo_write 183 = .ok (.aload_n 0, 1) := dk_0 a_Mo_write_183 (dko_42 _)
theorem d_Mo_write_184 : decode b_Mo_write 184 = .ok (.getfield 297, 3) := dk_U2 a_Mo_write_184 (dko_180 _) rfl
theorem d_Mo_write_187 : decode b_Mo_write 187 = .ok (.ireturn, 1) := dk_0 a_Mo_write_187 (dko_172 _)
set_option maxHeartbeats 4000000 in
set_option maxRecDepth 100000 in
theorem ok_Mo_write (pc : Nat) : OpS mt mi_Mo_write pc (cs_Mo_write pc) := (os_n (os_n (os_n (os_n (os_n (os_n (os_l (so_aload_n d_Mo_write_0 rfl)) (os_n (os_l (so_iload_n d_Mo_write_1 rfl)) (os_l (so_putI (C := R_Mo) (T := F_Mo) (N := 87) (j := 83) in_Mo t_Mo_ok n_Mo rfl (by decide) mw_1877 rfl (by decide +kernel) d_Mo_write_2)))) (os_n (os_l (so_aload_n d_Mo_write_5 rfl)) (os_n (os_l (so_iconst d_Mo_write_6 (by decide))) (os_l (so_putI (C := R_Mo) (T := F_Mo) (N := 87) (j := 84) in_Mo t_Mo_ok n_Mo rfl (by decide) mw_1878 rfl (by decide +kernel) d_Mo_write_7))))) (os_n (os_n (os_l (so_iconst d_Mo_write_10 (by decide))) (os_n (os_l (so_istore_n d_Mo_write_11 rfl (by decide))) (os_l (so_iload_n d_Mo_write_12 rfl)))) (os_n (os_n (os_l (so_aload_n d_Mo_write_13 rfl)) (os_l (so_get (C := R_Mo) (T := F_Mo) (N := 87) (j := 4) in_Mo rfl (by decide) mw_1798 d_Mo_write_14))) (os_n (os_l (so_icge d_Mo_write_17 (by decide))) (os_l (so_iload_n d_Mo_write_20 rfl)))))) (os_n (os_n (os_n (os_l (so_iflt d_Mo_write_21 (by decide))) (os_n (os_l (so_aload_n d_Mo_write_24 rfl)) (os_l (so_aload_n d_Mo_write_25 rfl)))) (os_n (os_l (so_get (C := R_Mo) (T := F_Mo) (N := 87) (j := 5) in_Mo rfl (by decide) mw_1799 d_Mo_write_26)) (os_n (os_l (so_iload_n d_Mo_write_29 rfl)) (os_l (so_iaload d_Mo_write_30))))) (os_n (os_n (os_l (so_ifne d_Mo_write_31 (by decide))) (os_n (os_l (so_ldc2 mw_2076 d_Mo_write_34)) (os_l (so_goto d_Mo_write_37 (by decide))))) (os_n (os_n (os_l (so_aload_n d_Mo_write_40 rfl)) (os_l (so_get (C := R_Mo) (T := F_Mo) (N := 87) (j := 5) in_Mo rfl (by decide) mw_1799 d_Mo_write_41))) (os_n (os_l (so_iload_n d_Mo_write_44 rfl)) (os_l (so_iaload d_Mo_write_45))))))) (os_n (os_n (os_n (os_n (os_l (so_iconst d_Mo_write_46 (by decide))) (os_n (os_l (so_icne d_Mo_write_47 (by decide))) (os_l (so_ldc2 mw_2351 d_Mo_write_50)))) (os_n (os_l (so_goto d_Mo_write_53 (by decide))) (os_n (os_l (so_ldc2 mw_2082 d_Mo_write_56)) (os_l (so_callV (iv := mi_Mo_say) rfl rfl rfl mw_2352 mw_2354 sl_142 mw_18 mw_2355 ⟨by decide +kernel, by decide +kernel, by decide +kernel⟩ (by decide) d_Mo_write_59))))) (os_n (os_n (os_l (so_aload_n d_Mo_write_62 rfl)) (os_n (os_l (so_get (C := R_Mo) (T := F_Mo) (N := 87) (j := 5) in_Mo rfl (by decide) mw_1799 d_Mo_write_63)) (os_l (so_iload_n d_Mo_write_66 rfl)))) (os_n (os_n (os_l (so_iaload d_Mo_write_67)) (os_l (so_iconst d_Mo_write_68 (by decide)))) (os_n (os_l (so_iceq d_Mo_write_69 (by decide))) (os_l (so_aload_n d_Mo_write_72 rfl)))))) (os_n (os_n (os_n (os_l (so_aload_n d_Mo_write_73 rfl)) (os_n (os_l (so_get (C := R_Mo) (T := F_Mo) (N := 87) (j := 5) in_Mo rfl (by decide) mw_1799 d_Mo_write_74)) (os_l (so_iload_n d_Mo_write_77 rfl)))) (os_n (os_l (so_iaload d_Mo_write_78)) (os_n (os_l (so_ifne d_Mo_write_79 (by decide))) (os_l (so_aload_n d_Mo_write_82 rfl))))) (os_n (os_n (os_l (so_get (C := R_Mo) (T := F_Mo) (N := 87) (j := 6) in_Mo rfl (by decide) mw_1800 d_Mo_write_83)) (os_n (os_l (so_iload_n d_Mo_write_86 rfl)) (os_l (so_iaload d_Mo_write_87)))) (os_n (os_n (os_l (so_goto d_Mo_write_88 (by decide))) (os_l (so_aload_n d_Mo_write_91 rfl))) (os_n (os_l (so_get (C := R_Mo) (T := F_Mo) (N := 87) (j := 5) in_Mo rfl (by decide) mw_1799 d_Mo_write_92)) (os_l (so_iload_n d_Mo_write_95 rfl)))))))) (os_n (os_n (os_n (os_n (os_n (os_l (so_iaload d_Mo_write_96)) (os_n (os_l (so_iconst d_Mo_write_97 (by decide))) (os_l (so_isub d_Mo_write_98)))) (os_n (os_l (so_callV (iv := mi_Mo_sayNumber) rfl rfl rfl mw_2360 mw_2362 sl_144 mw_18 mw_2363 ⟨by decide +kernel, by decide +kernel, by decide +kernel⟩ (by decide) d_Mo_write_99)) (os_n (os_l (so_aload_n d_Mo_write_102 rfl)) (os_l (so_bipush d_Mo_write_103 (by decide)))))) (os_n (os_n (os_l (so_callV (iv := mi_Mo_letter) rfl rfl rfl mw_2356 mw_2358 sl_143 mw_18 mw_2359 ⟨by decide +kernel, by decide +kernel, by decide +kernel⟩ (by decide) d_Mo_write_105)) (os_n (os_l (so_iinc d_Mo_write_108 (by decide) (by decide))) (os_l (so_goto d_Mo_write_111 (by decide))))) (os_n (os_n (os_l (so_iconst d_Mo_write_114 (by decide))) (os_l (so_istore_n d_Mo_write_115 rfl (by decide)))) (os_n (os_l (so_iload_n d_Mo_write_116 rfl)) (os_l (so_aload_n d_Mo_write_117 rfl)))))) (os_n (os_n (os_n (os_l (so_get (C := R_Mo) (T := F_Mo) (N := 87) (j := 11) in_Mo rfl (by decide) mw_1805 d_Mo_write_118)) (os_n (os_l (so_icge d_Mo_write_121 (by decide))) (os_l (so_iload_n d_Mo_write_124 rfl)))) (os_n (os_l (so_iflt d_Mo_write_125 (by decide))) (os_n (os_l (so_aload_n d_Mo_write_128 rfl)) (os_l (so_ldc2 mw_2364 d_Mo_write_129))))) (os_n (os_n (os_l (so_callV (iv := mi_Mo_say) rfl rfl rfl mw_2352 mw_2354 sl_142 mw_18 mw_2355 ⟨by decide +kernel, by decide +kernel, by decide +kernel⟩ (by decide) d_Mo_write_132)) (os_n (os_l (so_aload_n d_Mo_write_135 rfl)) (os_l (so_aload_n d_Mo_write_136 rfl)))) (os_n (os_n (os_l (so_get (C := R_Mo) (T := F_Mo) (N := 87) (j := 13) in_Mo rfl (by decide) mw_1807 d_Mo_write_137)) (os_l (so_iconst d_Mo_write_140 (by decide)))) (os_n (os_l (so_iload_n d_Mo_write_141 rfl)) (os_l (so_imul d_Mo_write_142))))))) (os_n (os_n (os_n (os_n (os_l (so_iaload d_Mo_write_143)) (os_n (os_l (so_callV (iv := mi_Mo_sayNumber) rfl rfl rfl mw_2360 mw_2362 sl_144 mw_18 mw_2363 ⟨by decide +kernel, by decide +kernel, by decide +kernel⟩ (by decide) d_Mo_write_144)) (os_l (so_aload_n d_Mo_write_147 rfl)))) (os_n (os_l (so_aload_n d_Mo_write_148 rfl)) (os_n (os_l (so_get (C := R_Mo) (T := F_Mo) (N := 87) (j := 13) in_Mo rfl (by decide) mw_1807 d_Mo_write_149)) (os_l (so_iconst d_Mo_write_152 (by decide)))))) (os_n (os_n (os_l (so_iload_n d_Mo_write_153 rfl)) (os_n (os_l (so_imul d_Mo_write_154)) (os_l (so_iconst d_Mo_write_155 (by decide))))) (os_n (os_n (os_l (so_iadd d_Mo_write_156)) (os_l (so_iaload d_Mo_write_157))) (os_n (os_l (so_callV (iv := mi_Mo_sayNumber) rfl rfl rfl mw_2360 mw_2362 sl_144 mw_18 mw_2363 ⟨by decide +kernel, by decide +kernel, by decide +kernel⟩ (by decide) d_Mo_write_158)) (os_l (so_aload_n d_Mo_write_161 rfl)))))) (os_n (os_n (os_n (os_l (so_aload_n d_Mo_write_162 rfl)) (os_n (os_l (so_get (C := R_Mo) (T := F_Mo) (N := 87) (j := 12) in_Mo rfl (by decide) mw_1806 d_Mo_write_163)) (os_l (so_iload_n d_Mo_write_166 rfl)))) (os_n (os_l (so_iaload d_Mo_write_167)) (os_n (os_l (so_callV (iv := mi_Mo_sayNumber) rfl rfl rfl mw_2360 mw_2362 sl_144 mw_18 mw_2363 ⟨by decide +kernel, by decide +kernel, by decide +kernel⟩ (by decide) d_Mo_write_168)) (os_l (so_aload_n d_Mo_write_171 rfl))))) (os_n (os_n (os_l (so_bipush d_Mo_write_172 (by decide))) (os_n (os_l (so_callV (iv := mi_Mo_letter) rfl rfl rfl mw_2356 mw_2358 sl_143 mw_18 mw_2359 ⟨by decide +kernel, by decide +kernel, by decide +kernel⟩ (by decide) d_Mo_write_174)) (os_l (so_iinc d_Mo_write_177 (by decide) (by decide))))) (os_n (os_n (os_l (so_goto d_Mo_write_180 (by decide))) (os_l (so_aload_n d_Mo_write_183 rfl))) (os_n (os_l (so_get (C := R_Mo) (T := F_Mo) (N := 87) (j := 84) in_Mo rfl (by decide) mw_1878 d_Mo_write_184)) (os_l (so_ireturn rfl d_Mo_write_187)))))))))
abbrev t_Mo_isThing_17 : List UInt8 := 172 :: []
abbrev t_Mo_isThing_16 : List UInt8 := 3 :: t_Mo_isThing_17
abbrev t_Mo_isThing_13 : List UInt8 := 167 :: 0 :: 4 :: t_Mo_isThing_16
abbrev t_Mo_isThing_12 : List UInt8 := 4 :: t_Mo_isThing_13
abbrev t_Mo_isThing_9 : List UInt8 := 162 :: 0 :: 7 :: t_Mo_isThing_12
abbrev t_Mo_isThing_6 : List UInt8 := 180 :: 1 :: 22 :: t_Mo_isThing_9
abbrev t_Mo_isThing_5 : List UInt8 := 42 :: t_Mo_isThing_6
abbrev t_Mo_isThing_4 : List UInt8 := 27 :: t_Mo_isThing_5
abbrev t_Mo_isThing_1 : List UInt8 := 155 :: 0 :: 15 :: t_Mo_isThing_4
abbrev t_Mo_isThing_0 : List UInt8 := 27 :: t_Mo_isThing_1
theorem a_Mo_isThing_0 : dk_at b_Mo_isThing 0 t_Mo_isThing_0 := dk_start (by decide +kernel)
theorem a_Mo_isThing_1 : dk_at b_Mo_isThing 1 t_Mo_isThing_1 := dk_go 1 a_Mo_isThing_0 rfl
theorem a_Mo_isThing_4 : dk_at b_Mo_isThing 4 t_Mo_isThing_4 := dk_go 3 a_Mo_isThing_1 rfl
theorem a_Mo_isThing_5 : dk_at b_Mo_isThing 5 t_Mo_isThing_5 := dk_go 1 a_Mo_isThing_4 rfl
theorem a_Mo_isThing_6 : dk_at b_Mo_isThing 6 t_Mo_isThing_6 := dk_go 1 a_Mo_isThing_5 rfl
theorem a_Mo_isThing_9 : dk_at b_Mo_isThing 9 t_Mo_isThing_9 := dk_go 3 a_Mo_isThing_6 rfl
theorem a_Mo_isThing_12 : dk_at b_Mo_isThing 12 t_Mo_isThing_12 := dk_go 3 a_Mo_isThing_9 rfl
theorem a_Mo_isThing_13 : dk_at b_Mo_isThing 13 t_Mo_isThing_13 := dk_go 1 a_Mo_isThing_12 rfl
theorem a_Mo_isThing_16 : dk_at b_Mo_isThing 16 t_Mo_isThing_16 := dk_go 3 a_Mo_isThing_13 rfl
theorem a_Mo_isThing_17 : dk_at b_Mo_isThing 17 t_Mo_isThing_17 := dk_go 1 a_Mo_isThing_16 rfl
theorem d_Mo_isThing_0 : decode b_Mo_isThing 0 = .ok (.iload_n 1, 1) := dk_0 a_Mo_isThing_0 (dko_27 _)
theorem d_Mo_isThing_1 : decode b_Mo_isThing 1 = .ok (.ifCond .lt 15, 3) := dk_S2 a_Mo_isThing_1 (dko_155 _) (by decide +kernel)
theorem d_Mo_isThing_4 : decode b_Mo_isThing 4 = .ok (.iload_n 1, 1) := dk_0 a_Mo_isThing_4 (dko_27 _)
theorem d_Mo_isThing_5 : decode b_Mo_isThing 5 = .ok (.aload_n 0, 1) := dk_0 a_Mo_isThing_5 (dko_42 _)
theorem d_Mo_isThing_6 : decode b_Mo_isThing 6 = .ok (.getfield 278, 3) := dk_U2 a_Mo_isThing_6 (dko_180 _) rfl
theorem d_Mo_isThing_9 : decode b_Mo_isThing 9 = .ok (.if_icmp .ge 7, 3) := dk_S2 a_Mo_isThing_9 (dko_162 _) (by decide +kernel)
theorem d_Mo_isThing_12 : decode b_Mo_isThing 12 = .ok (.iconst 1, 1) := dk_0 a_Mo_isThing_12 (dko_4 _)
theorem d_Mo_isThing_13 : decode b_Mo_isThing 13 = .ok (.goto 4, 3) := dk_S2 a_Mo_isThing_13 (dko_167 _) (by decide +kernel)
theorem d_Mo_isThing_16 : decode b_Mo_isThing 16 = .ok (.iconst 0, 1) := dk_0 a_Mo_isThing_16 (dko_3 _)
theorem d_Mo_isThing_17 : decode b_Mo_isThing 17 = .ok (.ireturn, 1) := dk_0 a_Mo_isThing_17 (dko_172 _)
set_option maxHeartbeats 4000000 in
set_option maxRecDepth 100000 in
theorem ok_Mo_isThing (pc : Nat) : OpS mt mi_Mo_isThing pc (cs_Mo_isThing pc) := (os_n (os_n (os_n (os_l (so_iload_n d_Mo_isThing_0 rfl)) (os_l (so_iflt d_Mo_isThing_1 (by decide)))) (os_n (os_l (so_iload_n d_Mo_isThing_4 rfl)) (os_n (os_l (so_aload_n d_Mo_isThing_5 rfl)) (os_l (so_get (C := R_Mo) (T := F_Mo) (N := 87) (j := 4) in_Mo rfl (by decide) mw_1798 d_Mo_isThing_6))))) (os_n (os_n (os_l (so_icge d_Mo_isThing_9 (by decide))) (os_l (so_iconst d_Mo_isThing_12 (by decide)))) (os_n (os_l (so_goto d_Mo_isThing_13 (by decide))) (os_n (os_l (so_iconst d_Mo_isThing_16 (by decide))) (os_l (so_zreturn rfl d_Mo_isThing_17))))))
abbrev t_Mo_isTank_22 : List UInt8 := 172 :: []
abbrev t_Mo_isTank_21 : List UInt8 := 3 :: t_Mo_isTank_22
abbrev t_Mo_isTank_18 : List UInt8 := 167 :: 0 :: 4 :: t_Mo_isTank_21
abbrev t_Mo_isTank_17 : List UInt8 := 4 :: t_Mo_isTank_18
abbrev t_Mo_isTank_14 : List UInt8 := 154 :: 0 :: 7 :: t_Mo_isTank_17
abbrev t_Mo_isTank_13 : List UInt8 := 46 :: t_Mo_isTank_14
abbrev t_Mo_isTank_12 : List UInt8 := 27 :: t_Mo_isTank_13
abbrev t_Mo_isTank_9 : List UInt8 := 180 :: 0 :: 27 :: t_Mo_isTank_12
abbrev t_Mo_isTank_8 : List UInt8 := 42 :: t_Mo_isTank_9
abbrev t_Mo_isTank_5 : List UInt8 := 153 :: 0 :: 16 :: t_Mo_isTank_8
abbrev t_Mo_isTank_2 : List UInt8 := 182 :: 1 :: 58 :: t_Mo_isTank_5
abbrev t_Mo_isTank_1 : List UInt8 := 27 :: t_Mo_isTank_2
abbrev t_Mo_isTank_0 : List UInt8 := 42 :: t_Mo_isTank_1
theorem a_Mo_isTank_0 : dk_at b_Mo_isTank 0 t_Mo_isTank_0 := dk_start (by decide +kernel)
theorem a_Mo_isTank_1 : dk_at b_Mo_isTank 1 t_Mo_isTank_1 := dk_go 1 a_Mo_isTank_0 rfl
theorem a_Mo_isTank_2 : dk_at b_Mo_isTank 2 t_Mo_isTank_2 := dk_go 1 a_Mo_isTank_1 rfl
theorem a_Mo_isTank_5 : dk_at b_Mo_isTank 5 t_Mo_isTank_5 := dk_go 3 a_Mo_isTank_2 rfl
theorem a_Mo_isTank_8 : dk_at b_Mo_isTank 8 t_Mo_isTank_8 := dk_go 3 a_Mo_isTank_5 rfl
theorem a_Mo_isTank_9 : dk_at b_Mo_isTank 9 t_Mo_isTank_9 := dk_go 1 a_Mo_isTank_8 rfl
theorem a_Mo_isTank_12 : dk_at b_Mo_isTank 12 t_Mo_isTank_12 := dk_go 3 a_Mo_isTank_9 rfl
theorem a_Mo_isTank_13 : dk_at b_Mo_isTank 13 t_Mo_isTank_13 := dk_go 1 a_Mo_isTank_12 rfl
theorem a_Mo_isTank_14 : dk_at b_Mo_isTank 14 t_Mo_isTank_14 := dk_go 1 a_Mo_isTank_13 rfl
theorem a_Mo_isTank_17 : dk_at b_Mo_isTank 17 t_Mo_isTank_17 := dk_go 3 a_Mo_isTank_14 rfl
theorem a_Mo_isTank_18 : dk_at b_Mo_isTank 18 t_Mo_isTank_18 := dk_go 1 a_Mo_isTank_17 rfl
theorem a_Mo_isTank_21 : dk_at b_Mo_isTank 21 t_Mo_isTank_21 := dk_go 3 a_Mo_isTank_18 rfl
theorem a_Mo_isTank_22 : dk_at b_Mo_isTank 22 t_Mo_isTank_22 := dk_go 1 a_Mo_isTank_21 rfl
theorem d_Mo_isTank_0 : decode b_Mo_isTank 0 = .ok (.aload_n 0, 1) := dk_0 a_Mo_isTank_0 (dko_42 _)
theorem d_Mo_isTank_1 : decode b_Mo_isTank 1 = .ok (.iload_n 1, 1) := dk_0 a_Mo_isTank_1 (dko_27 _)
theorem d_Mo_isTank_2 : decode b_Mo_isTank 2 = .ok (.invokevirtual 314, 3) := dk_U2 a_Mo_isTank_2 (dko_182 _) rfl
theorem d_Mo_isTank_5 : decode b_Mo_isTank 5 = .ok (.ifCond .eq 16, 3) := dk_S2 a_Mo_isTank_5 (dko_153 _) (by decide +kernel)
theorem d_Mo_isTank_8 : decode b_Mo_isTank 8 = .ok (.aload_n 0, 1) := dk_0 a_Mo_isTank_8 (dko_42 _)
theorem d_Mo_isTank_9 : decode b_Mo_isTank 9 = .ok (.getfield 27, 3) := dk_U2 a_Mo_isTank_9 (dko_180 _) rfl
theorem d_Mo_isTank_12 : decode b_Mo_isTank 12 = .ok (.iload_n 1, 1) := dk_0 a_Mo_isTank_12 (dko_27 _)
theorem d_Mo_isTank_13 : decode b_Mo_isTank 13 = .ok (.iaload, 1) := dk_0 a_Mo_isTank_13 (dko_46 _)
theorem d_Mo_isTank_14 : decode b_Mo_isTank 14 = .ok (.ifCond .ne 7, 3) := dk_S2 a_Mo_isTank_14 (dko_154 _) (by decide +kernel)
theorem d_Mo_isTank_17 : decode b_Mo_isTank 17 = .ok (.iconst 1, 1) := dk_0 a_Mo_isTank_17 (dko_4 _)
theorem d_Mo_isTank_18 : decode b_Mo_isTank 18 = .ok (.goto 4, 3) := dk_S2 a_Mo_isTank_18 (dko_167 _) (by decide +kernel)
theorem d_Mo_isTank_21 : decode b_Mo_isTank 21 = .ok (.iconst 0, 1) := dk_0 a_Mo_isTank_21 (dko_3 _)
theorem d_Mo_isTank_22 : decode b_Mo_isTank 22 = .ok (.ireturn, 1) := dk_0 a_Mo_isTank_22 (dko_172 _)
set_option maxHeartbeats 4000000 in
set_option maxRecDepth 100000 in
theorem ok_Mo_isTank (pc : Nat) : OpS mt mi_Mo_isTank pc (cs_Mo_isTank pc) := (os_n (os_n (os_n (os_l (so_aload_n d_Mo_isTank_0 rfl)) (os_n (os_l (so_iload_n d_Mo_isTank_1 rfl)) (os_l (so_callV (iv := mi_Mo_isThing) rfl rfl rfl mw_2416 mw_2418 sl_154 mw_18 mw_2419 ⟨by decide +kernel, by decide +kernel, by decide +kernel⟩ (by decide) d_Mo_isTank_2)))) (os_n (os_l (so_ifeq d_Mo_isTank_5 (by decide))) (os_n (os_l (so_aload_n d_Mo_isTank_8 rfl)) (os_l (so_get (C := R_Mo) (T := F_Mo) (N := 87) (j := 5) in_Mo rfl (by decide) mw_1799 d_Mo_isTank_9))))) (os_n (os_n (os_l (so_iload_n d_Mo_isTank_12 rfl)) (os_n (os_l (so_iaload d_Mo_isTank_13)) (os_l (so_ifne d_Mo_isTank_14 (by decide))))) (os_n (os_n (os_l (so_iconst d_Mo_isTank_17 (by decide))) (os_l (so_goto d_Mo_isTank_18 (by decide)))) (os_n (os_l (so_iconst d_Mo_isTank_21 (by decide))) (os_l (so_zreturn rfl d_Mo_isTank_22))))))
abbrev t_Mo_isValve_23 : List UInt8 := 172 :: []
abbrev t_Mo_isValve_22 : List UInt8 := 3 :: t_Mo_isValve_23
abbrev t_Mo_isValve_19 : List UInt8 := 167 :: 0 :: 4 :: t_Mo_isValve_22
abbrev t_Mo_isValve_18 : List UInt8 := 4 :: t_Mo_isValve_19
abbrev t_Mo_isValve_15 : List UInt8 := 161 :: 0 :: 7 :: t_Mo_isValve_18
abbrev t_Mo_isValve_14 : List UInt8 := 5 :: t_Mo_isValve_15
abbrev t_Mo_isValve_13 : List UInt8 := 46 :: t_Mo_isValve_14
abbrev t_Mo_isValve_12 : List UInt8 := 27 :: t_Mo_isValve_13
abbrev t_Mo_isValve_9 : List UInt8 := 180 :: 0 :: 27 :: t_Mo_isValve_12
abbrev t_Mo_isValve_8 : List UInt8 := 42 :: t_Mo_isValve_9
abbrev t_Mo_isValve_5 : List UInt8 := 153 :: 0 :: 17 :: t_Mo_isValve_8
abbrev t_Mo_isValve_2 : List UInt8 := 182 :: 1 :: 58 :: t_Mo_isValve_5
abbrev t_Mo_isValve_1 : List UInt8 := 27 :: t_Mo_isValve_2
abbrev t_Mo_isValve_0 : List UInt8 := 42 :: t_Mo_isValve_1
theorem a_Mo_isValve_0 : dk_at b_Mo_isValve 0 t_Mo_isValve_0 := dk_start (by decide +kernel)
theorem a_Mo_isValve_1 : dk_at b_Mo_isValve 1 t_Mo_isValve_1 := dk_go 1 a_Mo_isValve_0 rfl
theorem a_Mo_isValve_2 : dk_at b_Mo_isValve 2 t_Mo_isValve_2 := dk_go 1 a_Mo_isValve_1 rfl
theorem a_Mo_isValve_5 : dk_at b_Mo_isValve 5 t_Mo_isValve_5 := dk_go 3 a_Mo_isValve_2 rfl
theorem a_Mo_isValve_8 : dk_at b_Mo_isValve 8 t_Mo_isValve_8 := dk_go 3 a_Mo_isValve_5 rfl
theorem a_Mo_isValve_9 : dk_at b_Mo_isValve 9 t_Mo_isValve_9 := dk_go 1 a_Mo_isValve_8 rfl
theorem a_Mo_isValve_12 : dk_at b_Mo_isValve 12 t_Mo_isValve_12 := dk_go 3 a_Mo_isValve_9 rfl
theorem a_Mo_isValve_13 : dk_at b_Mo_isValve 13 t_Mo_isValve_13 := dk_go 1 a_Mo_isValve_12 rfl
theorem a_Mo_isValve_14 : dk_at b_Mo_isValve 14 t_Mo_isValve_14 := dk_go 1 a_Mo_isValve_13 rfl
theorem a_Mo_isValve_15 : dk_at b_Mo_isValve 15 t_Mo_isValve_15 := dk_go 1 a_Mo_isValve_14 rfl
theorem a_Mo_isValve_18 : dk_at b_Mo_isValve 18 t_Mo_isValve_18 := dk_go 3 a_Mo_isValve_15 rfl
theorem a_Mo_isValve_19 : dk_at b_Mo_isValve 19 t_Mo_isValve_19 := dk_go 1 a_Mo_isValve_18 rfl
theorem a_Mo_isValve_22 : dk_at b_Mo_isValve 22 t_Mo_isValve_22 := dk_go 3 a_Mo_isValve_19 rfl
theorem a_Mo_isValve_23 : dk_at b_Mo_isValve 23 t_Mo_isValve_23 := dk_go 1 a_Mo_isValve_22 rfl
theorem d_Mo_isValve_0 : decode b_Mo_isValve 0 = .ok (.aload_n 0, 1) := dk_0 a_Mo_isValve_0 (dko_42 _)
theorem d_Mo_isValve_1 : decode b_Mo_isValve 1 = .ok (.iload_n 1, 1) := dk_0 a_Mo_isValve_1 (dko_27 _)
theorem d_Mo_isValve_2 : decode b_Mo_isValve 2 = .ok (.invokevirtual 314, 3) := dk_U2 a_Mo_isValve_2 (dko_182 _) rfl
theorem d_Mo_isValve_5 : decode b_Mo_isValve 5 = .ok (.ifCond .eq 17, 3) := dk_S2 a_Mo_isValve_5 (dko_153 _) (by decide +kernel)
theorem d_Mo_isValve_8 : decode b_Mo_isValve 8 = .ok (.aload_n 0, 1) := dk_0 a_Mo_isValve_8 (dko_42 _)
theorem d_Mo_isValve_9 : decode b_Mo_isValve 9 = .ok (.getfield 27, 3) := dk_U2 a_Mo_isValve_9 (dko_180 _) rfl
theorem d_Mo_isValve_12 : decode b_Mo_isValve 12 = .ok (.iload_n 1, 1) := dk_0 a_Mo_isValve_12 (dko_27 _)
theorem d_Mo_isValve_13 : decode b_Mo_isValve 13 = .ok (.iaload, 1) := dk_0 a_Mo_isValve_13 (dko_46 _)
theorem d_Mo_isValve_14 : decode b_Mo_isValve 14 = .ok (.iconst 2, 1) := dk_0 a_Mo_isValve_14 (dko_5 _)
theorem d_Mo_isValve_15 : decode b_Mo_isValve 15 = .ok (.if_icmp .lt 7, 3) := dk_S2 a_Mo_isValve_15 (dko_161 _) (by decide +kernel)
theorem d_Mo_isValve_18 : decode b_Mo_isValve 18 = .ok (.iconst 1, 1) := dk_0 a_Mo_isValve_18 (dko_4 _)
theorem d_Mo_isValve_19 : decode b_Mo_isValve 19 = .ok (.goto 4, 3) := dk_S2 a_Mo_isValve_19 (dko_167 _) (by decide +kernel)
theorem d_Mo_isValve_22 : decode b_Mo_isValve 22 = .ok (.iconst 0, 1) := dk_0 a_Mo_isValve_22 (dko_3 _)
theorem d_Mo_isValve_23 : decode b_Mo_isValve 23 = .ok (.ireturn, 1) := dk_0 a_Mo_isValve_23 (dko_172 _)
set_option maxHeartbeats 4000000 in
set_option maxRecDepth 100000 in
theorem ok_Mo_isValve (pc : Nat) : OpS mt mi_Mo_isValve pc (cs_Mo_isValve pc) := (os_n (os_n (os_n (os_l (so_aload_n d_Mo_isValve_0 rfl)) (os_n (os_l (so_iload_n d_Mo_isValve_1 rfl)) (os_l (so_callV (iv := mi_Mo_isThing) rfl rfl rfl mw_2416 mw_2418 sl_154 mw_18 mw_2419 ⟨by decide +kernel, by decide +kernel, by decide +kernel⟩ (by decide) d_Mo_isValve_2)))) (os_n (os_n (os_l (so_ifeq d_Mo_isValve_5 (by decide))) (os_l (so_aload_n d_Mo_isValve_8 rfl))) (os_n (os_l (so_get (C := R_Mo) (T := F_Mo) (N := 87) (j := 5) in_Mo rfl (by decide) mw_1799 d_Mo_isValve_9)) (os_l (so_iload_n d_Mo_isValve_12 rfl))))) (os_n (os_n (os_l (so_iaload d_Mo_isValve_13)) (os_n (os_l (so_iconst d_Mo_isValve_14 (by decide))) (os_l (so_iclt d_Mo_isValve_15 (by decide))))) (os_n (os_n (os_l (so_iconst d_Mo_isValve_18 (by decide))) (os_l (so_goto d_Mo_isValve_19 (by decide)))) (os_n (os_l (so_iconst d_Mo_isValve_22 (by decide))) (os_l (so_zreturn rfl d_Mo_isValve_23))))))
abbrev t_Mo_isPipe_26 : List UInt8 := 172 :: []
abbrev t_Mo_isPipe_25 : List UInt8 := 3 :: t_Mo_isPipe_26
abbrev t_Mo_isPipe_22 : List UInt8 := 167 :: 0 :: 4 :: t_Mo_isPipe_25
abbrev t_Mo_isPipe_21 : List UInt8 := 4 :: t_Mo_isPipe_22
abbrev t_Mo_isPipe_18 : List UInt8 := 162 :: 0 :: 7 :: t_Mo_isPipe_21
abbrev t_Mo_isPipe_17 : List UInt8 := 96 :: t_Mo_isPipe_18
abbrev t_Mo_isPipe_14 : List UInt8 := 180 :: 1 :: 25 :: t_Mo_isPipe_17
abbrev t_Mo_isPipe_13 : List UInt8 := 42 :: t_Mo_isPipe_14
abbrev t_Mo_isPipe_10 : List UInt8 := 180 :: 1 :: 22 :: t_Mo_isPipe_13
abbrev t_Mo_isPipe_9 : List UInt8 := 42 :: t_Mo_isPipe_10
abbrev t_Mo_isPipe_8 : List UInt8 := 27 :: t_Mo_isPipe_9
abbrev t_Mo_isPipe_5 : List UInt8 := 161 :: 0 :: 20 :: t_Mo_isPipe_8
abbrev t_Mo_isPipe_2 : List UInt8 := 180 :: 1 :: 22 :: t_Mo_isPipe_5
abbrev t_Mo_isPipe_1 : List UInt8 := 42 :: t_Mo_isPipe_2
abbrev t_Mo_isPipe_0 : List UInt8 := 27 :: t_Mo_isPipe_1
theorem a_Mo_isPipe_0 : dk_at b_Mo_isPipe 0 t_Mo_isPipe_0 := dk_start (by decide +kernel)
theorem a_Mo_isPipe_1 : dk_at b_Mo_isPipe 1 t_Mo_isPipe_1 := dk_go 1 a_Mo_isPipe_0 rfl
theorem a_Mo_isPipe_2 : dk_at b_Mo_isPipe 2 t_Mo_isPipe_2 := dk_go 1 a_Mo_isPipe_1 rfl
theorem a_Mo_isPipe_5 : dk_at b_Mo_isPipe 5 t_Mo_isPipe_5 := dk_go 3 a_Mo_isPipe_2 rfl
theorem a_Mo_isPipe_8 : dk_at b_Mo_isPipe 8 t_Mo_isPipe_8 := dk_go 3 a_Mo_isPipe_5 rfl
theorem a_Mo_isPipe_9 : dk_at b_Mo_isPipe 9 t_Mo_isPipe_9 := dk_go 1 a_Mo_isPipe_8 rfl
theorem a_Mo_isPipe_10 : dk_at b_Mo_isPipe 10 t_Mo_isPipe_10 := dk_go 1 a_Mo_isPipe_9 rfl
theorem a_Mo_isPipe_13 : dk_at b_Mo_isPipe 13 t_Mo_isPipe_13 := dk_go 3 a_Mo_isPipe_10 rfl
theorem a_Mo_isPipe_14 : dk_at b_Mo_isPipe 14 t_Mo_isPipe_14 := dk_go 1 a_Mo_isPipe_13 rfl
theorem a_Mo_isPipe_17 : dk_at b_Mo_isPipe 17 t_Mo_isPipe_17 := dk_go 3 a_Mo_isPipe_14 rfl
theorem a_Mo_isPipe_18 : dk_at b_Mo_isPipe 18 t_Mo_isPipe_18 := dk_go 1 a_Mo_isPipe_17 rfl
theorem a_Mo_isPipe_21 : dk_at b_Mo_isPipe 21 t_Mo_isPipe_21 := dk_go 3 a_Mo_isPipe_18 rfl
theorem a_Mo_isPipe_22 : dk_at b_Mo_isPipe 22 t_Mo_isPipe_22 := dk_go 1 a_Mo_isPipe_21 rfl
theorem a_Mo_isPipe_25 : dk_at b_Mo_isPipe 25 t_Mo_isPipe_25 := dk_go 3 a_Mo_isPipe_22 rfl
theorem a_Mo_isPipe_26 : dk_at b_Mo_isPipe 26 t_Mo_isPipe_26 := dk_go 1 a_Mo_isPipe_25 rfl
theorem d_Mo_isPipe_0 : decode b_Mo_isPipe 0 = .ok (.iload_n 1, 1) := dk_0 a_Mo_isPipe_0 (dko_27 _)
theorem d_Mo_isPipe_1 : decode b_Mo_isPipe 1 = .ok (.aload_n 0, 1) := dk_0 a_Mo_isPipe_1 (dko_42 _)
theorem d_Mo_isPipe_2 : decode b_Mo_isPipe 2 = .ok (.getfield 278, 3) := dk_U2 a_Mo_isPipe_2 (dko_180 _) rfl
theorem d_Mo_isPipe_5 : decode b_Mo_isPipe 5 = .ok (.if_icmp .lt 20, 3) := dk_S2 a_Mo_isPipe_5 (dko_161 _) (by decide +kernel)
theorem d_Mo_isPipe_8 : decode b_Mo_isPipe 8 = .ok (.iload_n 1, 1) := dk_0 a_Mo_isPipe_8 (dko_27 _)
theorem d_Mo_isPipe_9 : decode b_Mo_isPipe 9 = .ok (.aload_n 0, 1) := dk_0 a_Mo_isPipe_9 (dko_42 _)
theorem d_Mo_isPipe_10 : decode b_Mo_isPipe 10 = .ok (.getfield 278, 3) := dk_U2 a_Mo_isPipe_10 (dko_180 _) rfl
theorem d_Mo_isPipe_13 : decode b_Mo_isPipe 13 = .ok (.aload_n 0, 1) := dk_0 a_Mo_isPipe_13 (dko_42 _)
theorem d_Mo_isPipe_14 : decode b_Mo_isPipe 14 = .ok (.getfield 281, 3) := dk_U2 a_Mo_isPipe_14 (dko_180 _) rfl
theorem d_Mo_isPipe_17 : decode b_Mo_isPipe 17 = .ok (.iadd, 1) := dk_0 a_Mo_isPipe_17 (dko_96 _)
theorem d_Mo_isPipe_18 : decode b_Mo_isPipe 18 = .ok (.if_icmp .ge 7, 3) := dk_S2 a_Mo_isPipe_18 (dko_162 _) (by decide +kernel)
theorem d_Mo_isPipe_21 : decode b_Mo_isPipe 21 = .ok (.iconst 1, 1) := dk_0 a_Mo_isPipe_21 (dko_4 _)
theorem d_Mo_isPipe_22 : decode b_Mo_isPipe 22 = .ok (.goto 4, 3) := dk_S2 a_Mo_isPipe_22 (dko_167 _) (by decide +kernel)
theorem d_Mo_isPipe_25 : decode b_Mo_isPipe 25 = .ok (.iconst 0, 1) := dk_0 a_Mo_isPipe_25 (dko_3 _)
theorem d_Mo_isPipe_26 : decode b_Mo_isPipe 26 = .ok (.ireturn, 1) := dk_0 a_Mo_isPipe_26 (dko_172 _)
set_option maxHeartbeats 4000000 in
set_option maxRecDepth 100000 in
theorem ok_Mo_isPipe (pc : Nat) : OpS mt mi_Mo_isPipe pc (cs_Mo_isPipe pc) := (os_n (os_n (os_n (os_l (so_iload_n d_Mo_isPipe_0 rfl)) (os_n (os_l (so_aload_n d_Mo_isPipe_1 rfl)) (os_l (so_get (C := R_Mo) (T := F_Mo) (N := 87) (j := 4) in_Mo rfl (by decide) mw_1798 d_Mo_isPipe_2)))) (os_n (os_n (os_l (so_iclt d_Mo_isPipe_5 (by decide))) (os_l (so_iload_n d_Mo_isPipe_8 rfl))) (os_n (os_l (so_aload_n d_Mo_isPipe_9 rfl)) (os_l (so_get (C := R_Mo) (T := F_Mo) (N := 87) (j := 4) in_Mo rfl (by decide) mw_1798 d_Mo_isPipe_10))))) (os_n (os_n (os_n (os_l (so_aload_n d_Mo_isPipe_13 rfl)) (os_l (so_get (C := R_Mo) (T := F_Mo) (N := 87) (j := 11) in_Mo rfl (by decide) mw_1805 d_Mo_isPipe_14))) (os_n (os_l (so_iadd d_Mo_isPipe_17)) (os_l (so_icge d_Mo_isPipe_18 (by decide))))) (os_n (os_n (os_l (so_iconst d_Mo_isPipe_21 (by decide))) (os_l (so_goto d_Mo_isPipe_22 (by decide)))) (os_n (os_l (so_iconst d_Mo_isPipe_25 (by decide))) (os_l (so_zreturn rfl d_Mo_isPipe_26))))))
abbrev t_Mo_holdsLiquid_21 : List UInt8 := 172 :: []
abbrev t_Mo_holdsLiquid_20 : List UInt8 := 3 :: t_Mo_holdsLiquid_21
abbrev t_Mo_holdsLiquid_17 : List UInt8 := 167 :: 0 :: 4 :: t_Mo_holdsLiquid_20
abbrev t_Mo_holdsLiquid_16 : List UInt8 := 4 :: t_Mo_holdsLiquid_17
abbrev t_Mo_holdsLiquid_13 : List UInt8 := 153 :: 0 :: 7 :: t_Mo_holdsLiquid_16
abbrev t_Mo_holdsLiquid_10 : List UInt8 := 182 :: 1 :: 64 :: t_Mo_holdsLiquid_13
abbrev t_Mo_holdsLiquid_9 : List UInt8 := 27 :: t_Mo_holdsLiquid_10
abbrev t_Mo_holdsLiquid_8 : List UInt8 := 42 :: t_Mo_holdsLiquid_9
abbrev t_Mo_holdsLiquid_5 : List UInt8 := 154 :: 0 :: 11 :: t_Mo_holdsLiquid_8
abbrev t_Mo_holdsLiquid_2 : List UInt8 := 182 :: 1 :: 61 :: t_Mo_holdsLiquid_5
abbrev t_Mo_holdsLiquid_1 : List UInt8 := 27 :: t_Mo_holdsLiquid_2
abbrev t_Mo_holdsLiquid_0 : List UInt8 := 42 :: t_Mo_holdsLiquid_1
theorem a_Mo_holdsLiquid_0 : dk_at b_Mo_holdsLiquid 0 t_Mo_holdsLiquid_0 := dk_start (by decide +kernel)
theorem a_Mo_holdsLiquid_1 : dk_at b_Mo_holdsLiquid 1 t_Mo_holdsLiquid_1 := dk_go 1 a_Mo_holdsLiquid_0 rfl
theorem a_Mo_holdsLiquid_2 : dk_at b_Mo_holdsLiquid 2 t_Mo_holdsLiquid_2 := dk_go 1 a_Mo_holdsLiquid_1 rfl
theorem a_Mo_holdsLiquid_5 : dk_at b_Mo_holdsLiquid 5 t_Mo_holdsLiquid_5 := dk_go 3 a_Mo_holdsLiquid_2 rfl
theorem a_Mo_holdsLiquid_8 : dk_at b_Mo_holdsLiquid 8 t_Mo_holdsLiquid_8 := dk_go 3 a_Mo_holdsLiquid_5 rfl
theorem a_Mo_holdsLiquid_9 : dk_at b_Mo_holdsLiquid 9 t_Mo_holdsLiquid_9 := dk_go 1 a_Mo_holdsLiquid_8 rfl
theorem a_Mo_holdsLiquid_10 : dk_at b_Mo_holdsLiquid 10 t_Mo_holdsLiquid_10 := dk_go 1 a_Mo_holdsLiquid_9 rfl
theorem a_Mo_holdsLiquid_13 : dk_at b_Mo_holdsLiquid 13 t_Mo_holdsLiquid_13 := dk_go 3 a_Mo_holdsLiquid_10 rfl
theorem a_Mo_holdsLiquid_16 : dk_at b_Mo_holdsLiquid 16 t_Mo_holdsLiquid_16 := dk_go 3 a_Mo_holdsLiquid_13 rfl
theorem a_Mo_holdsLiquid_17 : dk_at b_Mo_holdsLiquid 17 t_Mo_holdsLiquid_17 := dk_go 1 a_Mo_holdsLiquid_16 rfl
theorem a_Mo_holdsLiquid_20 : dk_at b_Mo_holdsLiquid 20 t_Mo_holdsLiquid_20 := dk_go 3 a_Mo_holdsLiquid_17 rfl
theorem a_Mo_holdsLiquid_21 : dk_at b_Mo_holdsLiquid 21 t_Mo_holdsLiquid_21 := dk_go 1 a_Mo_holdsLiquid_20 rfl
theorem d_Mo_holdsLiquid_0 : decode b_Mo_holdsLiquid 0 = .ok (.aload_n 0, 1) := dk_0 a_Mo_holdsLiquid_0 (dko_42 _)
theorem d_Mo_holdsLiquid_1 : decode b_Mo_holdsLiquid 1 = .ok (.iload_n 1, 1) := dk_0 a_Mo_holdsLiquid_1 (dko_27 _)
theorem d_Mo_holdsLiquid_2 : decode b_Mo_holdsLiquid 2 = .ok (.invokevirtual 317, 3) := dk_U2 a_Mo_holdsLiquid_2 (dko_182 _) rfl
theorem d_Mo_holdsLiquid_5 : decode b_Mo_holdsLiquid 5 = .ok (.ifCond .ne 11, 3) := dk_S2 a_Mo_holdsLiquid_5 (dko_154 _) (by decide +kernel)
theorem d_Mo_holdsLiquid_8 : decode b_Mo_holdsLiquid 8 = .ok (.aload_n 0, 1) := dk_0 a_Mo_holdsLiquid_8 (dko_42 _)
theorem d_Mo_holdsLiquid_9 : decode b_Mo_holdsLiquid 9 = .ok (.iload_n 1, 1) := dk_0 a_Mo_holdsLiquid_9 (dko_27 _)
theorem d_Mo_holdsLiquid_10 : decode b_Mo_holdsLiquid 10 = .ok (.invokevirtual 320, 3) := dk_U2 a_Mo_holdsLiquid_10 (dko_182 _) rfl
theorem d_Mo_holdsLiquid_13 : decode b_Mo_holdsLiquid 13 = .ok (.ifCond .eq 7, 3) := dk_S2 a_Mo_holdsLiquid_13 (dko_153 _) (by decide +kernel)
theorem d_Mo_holdsLiquid_16 : decode b_Mo_holdsLiquid 16 = .ok (.iconst 1, 1) := dk_0 a_Mo_holdsLiquid_16 (dko_4 _)
theorem d_Mo_holdsLiquid_17 : decode b_Mo_holdsLiquid 17 = .ok (.goto 4, 3) := dk_S2 a_Mo_holdsLiquid_17 (dko_167 _) (by decide +kernel)
theorem d_Mo_holdsLiquid_20 : decode b_Mo_holdsLiquid 20 = .ok (.iconst 0, 1) := dk_0 a_Mo_holdsLiquid_20 (dko_3 _)
theorem d_Mo_holdsLiquid_21 : decode b_Mo_holdsLiquid 21 = .ok (.ireturn, 1) := dk_0 a_Mo_holdsLiquid_21 (dko_172 _)
set_option maxHeartbeats 4000000 in
set_option maxRecDepth 100000 in
theorem ok_Mo_holdsLiquid (pc : Nat) : OpS mt mi_Mo_holdsLiquid pc (cs_Mo_holdsLiquid pc) := (os_n (os_n (os_n (os_l (so_aload_n d_Mo_holdsLiquid_0 rfl)) (os_n (os_l (so_iload_n d_Mo_holdsLiquid_1 rfl)) (os_l (so_callV (iv := mi_Mo_isTank) rfl rfl rfl mw_2424 mw_2426 sl_156 mw_18 mw_2427 ⟨by decide +kernel, by decide +kernel, by decide +kernel⟩ (by decide) d_Mo_holdsLiquid_2)))) (os_n (os_l (so_ifne d_Mo_holdsLiquid_5 (by decide))) (os_n (os_l (so_aload_n d_Mo_holdsLiquid_8 rfl)) (os_l (so_iload_n d_Mo_holdsLiquid_9 rfl))))) (os_n (os_n (os_l (so_callV (iv := mi_Mo_isPipe) rfl rfl rfl mw_2428 mw_2430 sl_157 mw_18 mw_2431 ⟨by decide +kernel, by decide +kernel, by decide +kernel⟩ (by decide) d_Mo_holdsLiquid_10)) (os_n (os_l (so_ifeq d_Mo_holdsLiquid_13 (by decide))) (os_l (so_iconst d_Mo_holdsLiquid_16 (by decide))))) (os_n (os_l (so_goto d_Mo_holdsLiquid_17 (by decide))) (os_n (os_l (so_iconst d_Mo_holdsLiquid_20 (by decide))) (os_l (so_zreturn rfl d_Mo_holdsLiquid_21))))))
abbrev t_Mo_liquidIn_109 : List UInt8 := 172 :: []
abbrev t_Mo_liquidIn_108 : List UInt8 := 29 :: t_Mo_liquidIn_109
abbrev t_Mo_liquidIn_105 : List UInt8 := 167 :: 255 :: 200 :: t_Mo_liquidIn_108
abbrev t_Mo_liquidIn_102 : List UInt8 := 132 :: 4 :: 1 :: t_Mo_liquidIn_105
abbrev t_Mo_liquidIn_101 : List UInt8 := 62 :: t_Mo_liquidIn_102
abbrev t_Mo_liquidIn_99 : List UInt8 := 16 :: 15 :: t_Mo_liquidIn_101
abbrev t_Mo_liquidIn_96 : List UInt8 := 167 :: 0 :: 5 :: t_Mo_liquidIn_99
abbrev t_Mo_liquidIn_94 : List UInt8 := 21 :: 5 :: t_Mo_liquidIn_96
abbrev t_Mo_liquidIn_91 : List UInt8 := 154 :: 0 :: 8 :: t_Mo_liquidIn_94
abbrev t_Mo_liquidIn_90 : List UInt8 := 29 :: t_Mo_liquidIn_91
abbrev t_Mo_liquidIn_87 : List UInt8 := 167 :: 0 :: 14 :: t_Mo_liquidIn_90
abbrev t_Mo_liquidIn_86 : List UInt8 := 29 :: t_Mo_liquidIn_87
abbrev t_Mo_liquidIn_83 : List UInt8 := 160 :: 0 :: 7 :: t_Mo_liquidIn_86
abbrev t_Mo_liquidIn_82 : List UInt8 := 29 :: t_Mo_liquidIn_83
abbrev t_Mo_liquidIn_80 : List UInt8 := 21 :: 5 :: t_Mo_liquidIn_82
abbrev t_Mo_liquidIn_77 : List UInt8 := 153 :: 0 :: 9 :: t_Mo_liquidIn_80
abbrev t_Mo_liquidIn_75 : List UInt8 := 21 :: 5 :: t_Mo_liquidIn_77
abbrev t_Mo_liquidIn_73 : List UInt8 := 54 :: 5 :: t_Mo_liquidIn_75
abbrev t_Mo_liquidIn_72 : List UInt8 := 51 :: t_Mo_liquidIn_73
abbrev t_Mo_liquidIn_71 : List UInt8 := 96 :: t_Mo_liquidIn_72
abbrev t_Mo_liquidIn_69 : List UInt8 := 21 :: 4 :: t_Mo_liquidIn_71
abbrev t_Mo_liquidIn_68 : List UInt8 := 104 :: t_Mo_liquidIn_69
abbrev t_Mo_liquidIn_67 : List UInt8 := 28 :: t_Mo_liquidIn_68
abbrev t_Mo_liquidIn_64 : List UInt8 := 17 :: 0 :: 200 :: t_Mo_liquidIn_67
abbrev t_Mo_liquidIn_61 : List UInt8 := 180 :: 0 :: 55 :: t_Mo_liquidIn_64
abbrev t_Mo_liquidIn_60 : List UInt8 := 42 :: t_Mo_liquidIn_61
abbrev t_Mo_liquidIn_57 : List UInt8 := 162 :: 0 :: 51 :: t_Mo_liquidIn_60
abbrev t_Mo_liquidIn_56 : List UInt8 := 46 :: t_Mo_liquidIn_57
abbrev t_Mo_liquidIn_55 : List UInt8 := 28 :: t_Mo_liquidIn_56
abbrev t_Mo_liquidIn_52 : List UInt8 := 180 :: 0 :: 46 :: t_Mo_liquidIn_55
abbrev t_Mo_liquidIn_51 : List UInt8 := 42 :: t_Mo_liquidIn_52
abbrev t_Mo_liquidIn_49 : List UInt8 := 21 :: 4 :: t_Mo_liquidIn_51
abbrev t_Mo_liquidIn_47 : List UInt8 := 54 :: 4 :: t_Mo_liquidIn_49
abbrev t_Mo_liquidIn_46 : List UInt8 := 3 :: t_Mo_liquidIn_47
abbrev t_Mo_liquidIn_45 : List UInt8 := 62 :: t_Mo_liquidIn_46
abbrev t_Mo_liquidIn_44 : List UInt8 := 3 :: t_Mo_liquidIn_45
abbrev t_Mo_liquidIn_43 : List UInt8 := 61 :: t_Mo_liquidIn_44
abbrev t_Mo_liquidIn_42 : List UInt8 := 100 :: t_Mo_liquidIn_43
abbrev t_Mo_liquidIn_39 : List UInt8 := 180 :: 1 :: 22 :: t_Mo_liquidIn_42
abbrev t_Mo_liquidIn_38 : List UInt8 := 42 :: t_Mo_liquidIn_39
abbrev t_Mo_liquidIn_37 : List UInt8 := 27 :: t_Mo_liquidIn_38
abbrev t_Mo_liquidIn_36 : List UInt8 := 172 :: t_Mo_liquidIn_37
abbrev t_Mo_liquidIn_35 : List UInt8 := 3 :: t_Mo_liquidIn_36
abbrev t_Mo_liquidIn_32 : List UInt8 := 167 :: 0 :: 4 :: t_Mo_liquidIn_35
abbrev t_Mo_liquidIn_31 : List UInt8 := 46 :: t_Mo_liquidIn_32
abbrev t_Mo_liquidIn_30 : List UInt8 := 27 :: t_Mo_liquidIn_31
abbrev t_Mo_liquidIn_27 : List UInt8 := 180 :: 0 :: 37 :: t_Mo_liquidIn_30
abbrev t_Mo_liquidIn_26 : List UInt8 := 42 :: t_Mo_liquidIn_27
abbrev t_Mo_liquidIn_23 : List UInt8 := 158 :: 0 :: 12 :: t_Mo_liquidIn_26
abbrev t_Mo_liquidIn_22 : List UInt8 := 46 :: t_Mo_liquidIn_23
abbrev t_Mo_liquidIn_21 : List UInt8 := 27 :: t_Mo_liquidIn_22
abbrev t_Mo_liquidIn_18 : List UInt8 := 180 :: 0 :: 34 :: t_Mo_liquidIn_21
abbrev t_Mo_liquidIn_17 : List UInt8 := 42 :: t_Mo_liquidIn_18
abbrev t_Mo_liquidIn_14 : List UInt8 := 154 :: 0 :: 21 :: t_Mo_liquidIn_17
abbrev t_Mo_liquidIn_13 : List UInt8 := 46 :: t_Mo_liquidIn_14
abbrev t_Mo_liquidIn_12 : List UInt8 := 27 :: t_Mo_liquidIn_13
abbrev t_Mo_liquidIn_9 : List UInt8 := 180 :: 0 :: 27 :: t_Mo_liquidIn_12
abbrev t_Mo_liquidIn_8 : List UInt8 := 42 :: t_Mo_liquidIn_9
abbrev t_Mo_liquidIn_5 : List UInt8 := 162 :: 0 :: 32 :: t_Mo_liquidIn_8
abbrev t_Mo_liquidIn_2 : List UInt8 := 180 :: 1 :: 22 :: t_Mo_liquidIn_5
abbrev t_Mo_liquidIn_1 : List UInt8 := 42 :: t_Mo_liquidIn_2
abbrev t_Mo_liquidIn_0 : List UInt8 := 27 :: t_Mo_liquidIn_1
theorem a_Mo_liquidIn_0 : dk_at b_Mo_liquidIn 0 t_Mo_liquidIn_0 := dk_start (by decide +kernel)
theorem a_Mo_liquidIn_1 : dk_at b_Mo_liquidIn 1 t_Mo_liquidIn_1 := dk_go 1 a_Mo_liquidIn_0 rfl
theorem a_Mo_liquidIn_2 : dk_at b_Mo_liquidIn 2 t_Mo_liquidIn_2 := dk_go 1 a_Mo_liquidIn_1 rfl
theorem a_Mo_liquidIn_5 : dk_at b_Mo_liquidIn 5 t_Mo_liquidIn_5 := dk_go 3 a_Mo_liquidIn_2 rfl
theorem a_Mo_liquidIn_8 : dk_at b_Mo_liquidIn 8 t_Mo_liquidIn_8 := dk_go 3 a_Mo_liquidIn_5 rfl
theorem a_Mo_liquidIn_9 : dk_at b_Mo_liquidIn 9 t_Mo_liquidIn_9 := dk_go 1 a_Mo_liquidIn_8 rfl
theorem a_Mo_liquidIn_12 : dk_at b_Mo_liquidIn 12 t_Mo_liquidIn_12 := dk_go 3 a_Mo_liquidIn_9 rfl
theorem a_Mo_liquidIn_13 : dk_at b_Mo_liquidIn 13 t_Mo_liquidIn_13 := dk_go 1 a_Mo_liquidIn_12 rfl
theorem a_Mo_liquidIn_14 : dk_at b_Mo_liquidIn 14 t_Mo_liquidIn_14 := dk_go 1 a_Mo_liquidIn_13 rfl
theorem a_Mo_liquidIn_17 : dk_at b_Mo_liquidIn 17 t_Mo_liquidIn_17 := dk_go 3 a_Mo_liquidIn_14 rfl
theorem a_Mo_liquidIn_18 : dk_at b_Mo_liquidIn 18 t_Mo_liquidIn_18 := dk_go 1 a_Mo_liquidIn_17 rfl
theorem a_Mo_liquidIn_21 : dk_at b_Mo_liquidIn 21 t_Mo_liquidIn_21 := dk_go 3 a_Mo_liquidIn_18 rfl
theorem a_Mo_liquidIn_22 : dk_at b_Mo_liquidIn 22 t_Mo_liquidIn_22 := dk_go 1 a_Mo_liquidIn_21 rfl
theorem a_Mo_liquidIn_23 : dk_at b_Mo_liquidIn 23 t_Mo_liquidIn_23 := dk_go 1 a_Mo_liquidIn_22 rfl
theorem a_Mo_liquidIn_26 : dk_at b_Mo_liquidIn 26 t_Mo_liquidIn_26 := dk_go 3 a_Mo_liquidIn_23 rfl
theorem a_Mo_liquidIn_27 : dk_at b_Mo_liquidIn 27 t_Mo_liquidIn_27 := dk_go 1 a_Mo_liquidIn_26 rfl
theorem a_Mo_liquidIn_30 : dk_at b_Mo_liquidIn 30 t_Mo_liquidIn_30 := dk_go 3 a_Mo_liquidIn_27 rfl
theorem a_Mo_liquidIn_31 : dk_at b_Mo_liquidIn 31 t_Mo_liquidIn_31 := dk_go 1 a_Mo_liquidIn_30 rfl
theorem a_Mo_liquidIn_32 : dk_at b_Mo_liquidIn 32 t_Mo_liquidIn_32 := dk_go 1 a_Mo_liquidIn_31 rfl
theorem a_Mo_liquidIn_35 : dk_at b_Mo_liquidIn 35 t_Mo_liquidIn_35 := dk_go 3 a_Mo_liquidIn_32 rfl
theorem a_Mo_liquidIn_36 : dk_at b_Mo_liquidIn 36 t_Mo_liquidIn_36 := dk_go 1 a_Mo_liquidIn_35 rfl
theorem a_Mo_liquidIn_37 : dk_at b_Mo_liquidIn 37 t_Mo_liquidIn_37 := dk_go 1 a_Mo_liquidIn_36 rfl
theorem a_Mo_liquidIn_38 : dk_at b_Mo_liquidIn 38 t_Mo_liquidIn_38 := dk_go 1 a_Mo_liquidIn_37 rfl
theorem a_Mo_liquidIn_39 : dk_at b_Mo_liquidIn 39 t_Mo_liquidIn_39 := dk_go 1 a_Mo_liquidIn_38 rfl
theorem a_Mo_liquidIn_42 : dk_at b_Mo_liquidIn 42 t_Mo_liquidIn_42 := dk_go 3 a_Mo_liquidIn_39 rfl
theorem a_Mo_liquidIn_43 : dk_at b_Mo_liquidIn 43 t_Mo_liquidIn_43 := dk_go 1 a_Mo_liquidIn_42 rfl
theorem a_Mo_liquidIn_44 : dk_at b_Mo_liquidIn 44 t_Mo_liquidIn_44 := dk_go 1 a_Mo_liquidIn_43 rfl
theorem a_Mo_liquidIn_45 : dk_at b_Mo_liquidIn 45 t_Mo_liquidIn_45 := dk_go 1 a_Mo_liquidIn_44 rfl
theorem a_Mo_liquidIn_46 : dk_at b_Mo_liquidIn 46 t_Mo_liquidIn_46 := dk_go 1 a_Mo_liquidIn_45 rfl
theorem a_Mo_liquidIn_47 : dk_at b_Mo_liquidIn 47 t_Mo_liquidIn_47 := dk_go 1 a_Mo_liquidIn_46 rfl
theorem a_Mo_liquidIn_49 : dk_at b_Mo_liquidIn 49 t_Mo_liquidIn_49 := dk_go 2 a_Mo_liquidIn_47 rfl
theorem a_Mo_liquidIn_51 : dk_at b_Mo_liquidIn 51 t_Mo_liquidIn_51 := dk_go 2 a_Mo_liquidIn_49 rfl
theorem a_Mo_liquidIn_52 : dk_at b_Mo_liquidIn 52 t_Mo_liquidIn_52 := dk_go 1 a_Mo_liquidIn_51 rfl
theorem a_Mo_liquidIn_55 : dk_at b_Mo_liquidIn 55 t_Mo_liquidIn_55 := dk_go 3 a_Mo_liquidIn_52 rfl
theorem a_Mo_liquidIn_56 : dk_at b_Mo_liquidIn 56 t_Mo_liquidIn_56 := dk_go 1 a_Mo_liquidIn_55 rfl
theorem a_Mo_liquidIn_57 : dk_at b_Mo_liquidIn 57 t_Mo_liquidIn_57 := dk_go 1 a_Mo_liquidIn_56 rfl
theorem a_Mo_liquidIn_60 : dk_at b_Mo_liquidIn 60 t_Mo_liquidIn_60 := dk_go 3 a_Mo_liquidIn_57 rfl
theorem a_Mo_liquidIn_61 : dk_at b_Mo_liquidIn 61 t_Mo_liquidIn_61 := dk_go 1 a_Mo_liquidIn_60 rfl
theorem a_Mo_liquidIn_64 : dk_at b_Mo_liquidIn 64 t_Mo_liquidIn_64 := dk_go 3 a_Mo_liquidIn_61 rfl
theorem a_Mo_liquidIn_67 : dk_at b_Mo_liquidIn 67 t_Mo_liquidIn_67 := dk_go 3 a_Mo_liquidIn_64 rfl
theorem a_Mo_liquidIn_68 : dk_at b_Mo_liquidIn 68 t_Mo_liquidIn_68 := dk_go 1 a_Mo_liquidIn_67 rfl
theorem a_Mo_liquidIn_69 : dk_at b_Mo_liquidIn 69 t_Mo_liquidIn_69 := dk_go 1 a_Mo_liquidIn_68 rfl
theorem a_Mo_liquidIn_71 : dk_at b_Mo_liquidIn 71 t_Mo_liquidIn_71 := dk_go 2 a_Mo_liquidIn_69 rfl
theorem a_Mo_liquidIn_72 : dk_at b_Mo_liquidIn 72 t_Mo_liquidIn_72 := dk_go 1 a_Mo_liquidIn_71 rfl
theorem a_Mo_liquidIn_73 : dk_at b_Mo_liquidIn 73 t_Mo_liquidIn_73 := dk_go 1 a_Mo_liquidIn_72 rfl
theorem a_Mo_liquidIn_75 : dk_at b_Mo_liquidIn 75 t_Mo_liquidIn_75 := dk_go 2 a_Mo_liquidIn_73 rfl
theorem a_Mo_liquidIn_77 : dk_at b_Mo_liquidIn 77 t_Mo_liquidIn_77 := dk_go 2 a_Mo_liquidIn_75 rfl
theorem a_Mo_liquidIn_80 : dk_at b_Mo_liquidIn 80 t_Mo_liquidIn_80 := dk_go 3 a_Mo_liquidIn_77 rfl
theorem a_Mo_liquidIn_82 : dk_at b_Mo_liquidIn 82 t_Mo_liquidIn_82 := dk_go 2 a_Mo_liquidIn_80 rfl
theorem a_Mo_liquidIn_83 : dk_at b_Mo_liquidIn 83 t_Mo_liquidIn_83 := dk_go 1 a_Mo_liquidIn_82 rfl
theorem a_Mo_liquidIn_86 : dk_at b_Mo_liquidIn 86 t_Mo_liquidIn_86 := dk_go 3 a_Mo_liquidIn_83 rfl
theorem a_Mo_liquidIn_87 : dk_at b_Mo_liquidIn 87 t_Mo_liquidIn_87 := dk_go 1 a_Mo_liquidIn_86 rfl
theorem a_Mo_liquidIn_90 : dk_at b_Mo_liquidIn 90 t_Mo_liquidIn_90 := dk_go 3 a_Mo_liquidIn_87 rfl
theorem a_Mo_liquidIn_91 : dk_at b_Mo_liquidIn 91 t_Mo_liquidIn_91 := dk_go 1 a_Mo_liquidIn_90 rfl
theorem a_Mo_liquidIn_94 : dk_at b_Mo_liquidIn 94 t_Mo_liquidIn_94 := dk_go 3 a_Mo_liquidIn_91 rfl
theorem a_Mo_liquidIn_96 : dk_at b_Mo_liquidIn 96 t_Mo_liquidIn_96 := dk_go 2 a_Mo_liquidIn_94 rfl
theorem a_Mo_liquidIn_99 : dk_at b_Mo_liquidIn 99 t_Mo_liquidIn_99 := dk_go 3 a_Mo_liquidIn_96 rfl
theorem a_Mo_liquidIn_101 : dk_at b_Mo_liquidIn 101 t_Mo_liquidIn_101 := dk_go 2 a_Mo_liquidIn_99 rfl
theorem a_Mo_liquidIn_102 : dk_at b_Mo_liquidIn 102 t_Mo_liquidIn_102 := dk_go 1 a_Mo_liquidIn_101 rfl
theorem a_Mo_liquidIn_105 : dk_at b_Mo_liquidIn 105 t_Mo_liquidIn_105 := dk_go 3 a_Mo_liquidIn_102 rfl
theorem a_Mo_liquidIn_108 : dk_at b_Mo_liquidIn 108 t_Mo_liquidIn_108 := dk_go 3 a_Mo_liquidIn_105 rfl
theorem a_Mo_liquidIn_109 : dk_at b_Mo_liquidIn 109 t_Mo_liquidIn_109 := dk_go 1 a_Mo_liquidIn_108 rfl
theorem d_Mo_liquidIn_0 : decode b_Mo_liquidIn 0 = .ok (.iload_n 1, 1) := dk_0 a_Mo_liquidIn_0 (dko_27 _)
theorem d_Mo_liquidIn_1 : decode b_Mo_liquidIn 1 = .ok (.aload_n 0, 1) := dk_0 a_Mo_liquidIn_1 (dko_42 _)
theorem d_Mo_liquidIn_2 : decode b_Mo_liquidIn 2 = .ok (.getfield 278, 3) := dk_U2 a_Mo_liquidIn_2 (dko_180 _) rfl
theorem d_Mo_liquidIn_5 : decode b_Mo_liquidIn 5 = .ok (.if_icmp .ge 32, 3) := dk_S2 a_Mo_liquidIn_5 (dko_162 _) (by decide +kernel)
theorem d_Mo_liquidIn_8 : decode b_Mo_liquidIn 8 = .ok (.aload_n 0, 1) := dk_0 a_Mo_liquidIn_8 (dko_42 _)
theorem d_Mo_liquidIn_9 : decode b_Mo_liquidIn 9 = .ok (.getfield 27, 3) := dk_U2 a_Mo_liquidIn_9 (dko_180 _) rfl
theorem d_Mo_liquidIn_12 : decode b_Mo_liquidIn 12 = .ok (.iload_n 1, 1) := dk_0 a_Mo_liquidIn_12 (dko_27 _)
theorem d_Mo_liquidIn_13 : decode b_Mo_liquidIn 13 = .ok (.iaload, 1) := dk_0 a_Mo_liquidIn_13 (dko_46 _)
theorem d_Mo_liquidIn_14 : decode b_Mo_liquidIn 14 = .ok (.ifCond .ne 21, 3) := dk_S2 a_Mo_liquidIn_14 (dko_154 _) (by decide +kernel)
theorem d_Mo_liquidIn_17 : decode b_Mo_liquidIn 17 = .ok (.aload_n 0, 1) := dk_0 a_Mo_liquidIn_17 (dko_42 _)
theorem d_Mo_liquidIn_18 : decode b_Mo_liquidIn 18 = .ok (.getfield 34, 3) := dk_U2 a_Mo_liquidIn_18 (dko_180 _) rfl
theorem d_Mo_liquidIn_21 : decode b_Mo_liquidIn 21 = .ok (.iload_n 1, 1) := dk_0 a_Mo_liquidIn_21 (dko_27 _)
theorem d_Mo_liquidIn_22 : decode b_Mo_liquidIn 22 = .ok (.iaload, 1) := dk_0 a_Mo_liquidIn_22 (dko_46 _)
theorem d_Mo_liquidIn_23 : decode b_Mo_liquidIn 23 = .ok (.ifCond .le 12, 3) := dk_S2 a_Mo_liquidIn_23 (dko_158 _) (by decide +kernel)
theorem d_Mo_liquidIn_26 : decode b_Mo_liquidIn 26 = .ok (.aload_n 0, 1) := dk_0 a_Mo_liquidIn_26 (dko_42 _)
theorem d_Mo_liquidIn_27 : decode b_Mo_liquidIn 27 = .ok (.getfield 37, 3) := dk_U2 a_Mo_liquidIn_27 (dko_180 _) rfl
theorem d_Mo_liquidIn_30 : decode b_Mo_liquidIn 30 = .ok (.iload_n 1, 1) := dk_0 a_Mo_liquidIn_30 (dko_27 _)
theorem d_Mo_liquidIn_31 : decode b_Mo_liquidIn 31 = .ok (.iaload, 1) := dk_0 a_Mo_liquidIn_31 (dko_46 _)
theorem d_Mo_liquidIn_32 : decode b_Mo_liquidIn 32 = .ok (.goto 4, 3) := dk_S2 a_Mo_liquidIn_32 (dko_167 _) (by decide +kernel)
theorem d_Mo_liquidIn_35 : decode b_Mo_liquidIn 35 = .ok (.iconst 0, 1) := dk_0 a_Mo_liquidIn_35 (dko_3 _)
theorem d_Mo_liquidIn_36 : decode b_Mo_liquidIn 36 = .ok (.ireturn, 1) := dk_0 a_Mo_liquidIn_36 (dko_172 _)
theorem d_Mo_liquidIn_37 : decode b_Mo_liquidIn 37 = .ok (.iload_n 1, 1) := dk_0 a_Mo_liquidIn_37 (dko_27 _)
theorem d_Mo_liquidIn_38 : decode b_Mo_liquidIn 38 = .ok (.aload_n 0, 1) := dk_0 a_Mo_liquidIn_38 (dko_42 _)
theorem d_Mo_liquidIn_39 : decode b_Mo_liquidIn 39 = .ok (.getfield 278, 3) := dk_U2 a_Mo_liquidIn_39 (dko_180 _) rfl
theorem d_Mo_liquidIn_42 : decode b_Mo_liquidIn 42 = .ok (.isub, 1) := dk_0 a_Mo_liquidIn_42 (dko_100 _)
theorem d_Mo_liquidIn_43 : decode b_Mo_liquidIn 43 = .ok (.istore_n 2, 1) := dk_0 a_Mo_liquidIn_43 (dko_61 _)
theorem d_Mo_liquidIn_44 : decode b_Mo_liquidIn 44 = .ok (.iconst 0, 1) := dk_0 a_Mo_liquidIn_44 (dko_3 _)
theorem d_Mo_liquidIn_45 : decode b_Mo_liquidIn 45 = .ok (.istore_n 3, 1) := dk_0 a_Mo_liquidIn_45 (dko_62 _)
theorem d_Mo_liquidIn_46 : decode b_Mo_liquidIn 46 = .ok (.iconst 0, 1) := dk_0 a_Mo_liquidIn_46 (dko_3 _)
theorem d_Mo_liquidIn_47 : decode b_Mo_liquidIn 47 = .ok (.istore 4, 2) := dk_U1 a_Mo_liquidIn_47 (dko_54 _) rfl
theorem d_Mo_liquidIn_49 : decode b_Mo_liquidIn 49 = .ok (.iload 4, 2) := dk_U1 a_Mo_liquidIn_49 (dko_21 _) rfl
theorem d_Mo_liquidIn_51 : decode b_Mo_liquidIn 51 = .ok (.aload_n 0, 1) := dk_0 a_Mo_liquidIn_51 (dko_42 _)
theorem d_Mo_liquidIn_52 : decode b_Mo_liquidIn 52 = .ok (.getfield 46, 3) := dk_U2 a_Mo_liquidIn_52 (dko_180 _) rfl
theorem d_Mo_liquidIn_55 : decode b_Mo_liquidIn 55 = .ok (.iload_n 2, 1) := dk_0 a_Mo_liquidIn_55 (dko_28 _)
theorem d_Mo_liquidIn_56 : decode b_Mo_liquidIn 56 = .ok (.iaload, 1) := dk_0 a_Mo_liquidIn_56 (dko_46 _)
theorem d_Mo_liquidIn_57 : decode b_Mo_liquidIn 57 = .ok (.if_icmp .ge 51, 3) := dk_S2 a_Mo_liquidIn_57 (dko_162 _) (by decide +kernel)
theorem d_Mo_liquidIn_60 : decode b_Mo_liquidIn 60 = .ok (.aload_n 0, 1) := dk_0 a_Mo_liquidIn_60 (dko_42 _)
theorem d_Mo_liquidIn_61 : decode b_Mo_liquidIn 61 = .ok (.getfield 55, 3) := dk_U2 a_Mo_liquidIn_61 (dko_180 _) rfl
theorem d_Mo_liquidIn_64 : decode b_Mo_liquidIn 64 = .ok (.sipush 200, 3) := dk_S2 a_Mo_liquidIn_64 (dko_17 _) (by decide +kernel)
theorem d_Mo_liquidIn_67 : decode b_Mo_liquidIn 67 = .ok (.iload_n 2, 1) := dk_0 a_Mo_liquidIn_67 (dko_28 _)
theorem d_Mo_liquidIn_68 : decode b_Mo_liquidIn 68 = .ok (.imul, 1) := dk_0 a_Mo_liquidIn_68 (dko_104 _)
theorem d_Mo_liquidIn_69 : decode b_Mo_liquidIn 69 = .ok (.iload 4, 2) := dk_U1 a_Mo_liquidIn_69 (dko_21 _) rfl
theorem d_Mo_liquidIn_71 : decode b_Mo_liquidIn 71 = .ok (.iadd, 1) := dk_0 a_Mo_liquidIn_71 (dko_96 _)
theorem d_Mo_liquidIn_72 : decode b_Mo_liquidIn 72 = .ok (.baload, 1) := dk_0 a_Mo_liquidIn_72 (dko_51 _)
theorem d_Mo_liquidIn_73 : decode b_Mo_liquidIn 73 = .ok (.istore 5, 2) := dk_U1 a_Mo_liquidIn_73 (dko_54 _) rfl
theorem d_Mo_liquidIn_75 : decode b_Mo_liquidIn 75 = .ok (.iload 5, 2) := dk_U1 a_Mo_liquidIn_75 (dko_21 _) rfl
theorem d_Mo_liquidIn_77 : decode b_Mo_liquidIn 77 = .ok (.ifCond .eq 9, 3) := dk_S2 a_Mo_liquidIn_77 (dko_153 _) (by decide +kernel)
theorem d_Mo_liquidIn_80 : decode b_Mo_liquidIn 80 = .ok (.iload 5, 2) := dk_U1 a_Mo_liquidIn_80 (dko_21 _) rfl
theorem d_Mo_liquidIn_82 : decode b_Mo_liquidIn 82 = .ok (.iload_n 3, 1) := dk_0 a_Mo_liquidIn_82 (dko_29 _)
theorem d_Mo_liquidIn_83 : decode b_Mo_liquidIn 83 = .ok (.if_icmp .ne 7, 3) := dk_S2 a_Mo_liquidIn_83 (dko_160 _) (by decide +kernel)
theorem d_Mo_liquidIn_86 : decode b_Mo_liquidIn 86 = .ok (.iload_n 3, 1) := dk_0 a_Mo_liquidIn_86 (dko_29 _)
theorem d_Mo_liquidIn_87 : decode b_Mo_liquidIn 87 = .ok (.goto 14, 3) := dk_S2 a_Mo_liquidIn_87 (dko_167 _) (by decide +kernel)
theorem d_Mo_liquidIn_90 : decode b_Mo_liquidIn 90 = .ok (.iload_n 3, 1) := dk_0 a_Mo_liquidIn_90 (dko_29 _)
theorem d_Mo_liquidIn_91 : decode b_Mo_liquidIn 91 = .ok (.ifCond .ne 8, 3) := dk_S2 a_Mo_liquidIn_91 (dko_154 _) (by decide +kernel)
theorem d_Mo_liquidIn_94 : decode b_Mo_liquidIn 94 = .ok (.iload 5, 2) := dk_U1 a_Mo_liquidIn_94 (dko_21 _) rfl
theorem d_Mo_liquidIn_96 : decode b_Mo_liquidIn 96 = .ok (.goto 5, 3) := dk_S2 a_Mo_liquidIn_96 (dko_167 _) (by decide +kernel)
theorem d_Mo_liquidIn_99 : decode b_Mo_liquidIn 99 = .ok (.bipush 15, 2) := dk_S1 a_Mo_liquidIn_99 (dko_16 _) (by decide +kernel)
theorem d_Mo_liquidIn_101 : decode b_Mo_liquidIn 101 = .ok (.istore_n 3, 1) := dk_0 a_Mo_liquidIn_101 (dko_62 _)
theorem d_Mo_liquidIn_102 : decode b_Mo_liquidIn 102 = .ok (.iinc 4 1, 3) := dk_US a_Mo_liquidIn_102 (dko_132 _) (by decide +kernel)
theorem d_Mo_liquidIn_105 : decode b_Mo_liquidIn 105 = .ok (.goto (-56), 3) := dk_S2 a_Mo_liquidIn_105 (dko_167 _) (by decide +kernel)
theorem d_Mo_liquidIn_108 : decode b_Mo_liquidIn 108 = .ok (.iload_n 3, 1) := dk_0 a_Mo_liquidIn_108 (dko_29 _)
theorem d_Mo_liquidIn_109 : decode b_Mo_liquidIn 109 = .ok (.ireturn, 1) := dk_0 a_Mo_liquidIn_109 (dko_172 _)
set_option maxHeartbeats 4000000 in
set_option maxRecDepth 100000 in
theorem ok_Mo_liquidIn (pc : Nat) : OpS mt mi_Mo_liquidIn pc (cs_Mo_liquidIn pc) := (os_n (os_n (os_n (os_n (os_n (os_l (so_iload_n d_Mo_liquidIn_0 rfl)) (os_n (os_l (so_aload_n d_Mo_liquidIn_1 rfl)) (os_l (so_get (C := R_Mo) (T := F_Mo) (N := 87) (j := 4) in_Mo rfl (by decide) mw_1798 d_Mo_liquidIn_2)))) (os_n (os_n (os_l (so_icge d_Mo_liquidIn_5 (by decide))) (os_l (so_aload_n d_Mo_liquidIn_8 rfl))) (os_n (os_l (so_get (C := R_Mo) (T := F_Mo) (N := 87) (j := 5) in_Mo rfl (by decide) mw_1799 d_Mo_liquidIn_9)) (os_l (so_iload_n d_Mo_liquidIn_12 rfl))))) (os_n (os_n (os_n (os_l (so_iaload d_Mo_liquidIn_13)) (os_l (so_ifne d_Mo_liquidIn_14 (by decide)))) (os_n (os_l (so_aload_n d_Mo_liquidIn_17 rfl)) (os_l (so_get (C := R_Mo) (T := F_Mo) (N := 87) (j := 7) in_Mo rfl (by decide) mw_1801 d_Mo_liquidIn_18)))) (os_n (os_n (os_l (so_iload_n d_Mo_liquidIn_21 rfl)) (os_l (so_iaload d_Mo_liquidIn_22))) (os_n (os_l (so_ifle d_Mo_liquidIn_23 (by decide))) (os_l (so_aload_n d_Mo_liquidIn_26 rfl)))))) (os_n (os_n (os_n (os_n (os_l (so_get (C := R_Mo) (T := F_Mo) (N := 87) (j := 8) in_Mo rfl (by decide) mw_1802 d_Mo_liquidIn_27)) (os_l (so_iload_n d_Mo_liquidIn_30 rfl))) (os_n (os_l (so_iaload d_Mo_liquidIn_31)) (os_l (so_goto d_Mo_liquidIn_32 (by decide))))) (os_n (os_n (os_l (so_iconst d_Mo_liquidIn_35 (by decide))) (os_l (so_ireturn rfl d_Mo_liquidIn_36))) (os_n (os_l (so_iload_n d_Mo_liquidIn_37 rfl)) (os_l (so_aload_n d_Mo_liquidIn_38 rfl))))) (os_n (os_n (os_n (os_l (so_get (C := R_Mo) (T := F_Mo) (N := 87) (j := 4) in_Mo rfl (by decide) mw_1798 d_Mo_liquidIn_39)) (os_l (so_isub d_Mo_liquidIn_42))) (os_n (os_l (so_istore_n d_Mo_liquidIn_43 rfl (by decide))) (os_l (so_iconst d_Mo_liquidIn_44 (by decide))))) (os_n (os_n (os_l (so_istore_n d_Mo_liquidIn_45 rfl (by decide))) (os_l (so_iconst d_Mo_liquidIn_46 (by decide)))) (os_n (os_l (so_istore d_Mo_liquidIn_47 (by decide))) (os_l (so_iload d_Mo_liquidIn_49))))))) (os_n (os_n (os_n (os_n (os_l (so_aload_n d_Mo_liquidIn_51 rfl)) (os_n (os_l (so_get (C := R_Mo) (T := F_Mo) (N := 87) (j := 12) in_Mo rfl (by decide) mw_1806 d_Mo_liquidIn_52)) (os_l (so_iload_n d_Mo_liquidIn_55 rfl)))) (os_n (os_n (os_l (so_iaload d_Mo_liquidIn_56)) (os_l (so_icge d_Mo_liquidIn_57 (by decide)))) (os_n (os_l (so_aload_n d_Mo_liquidIn_60 rfl)) (os_l (so_get (C := R_Mo) (T := F_Mo) (N := 87) (j := 15) in_Mo rfl (by decide) mw_1809 d_Mo_liquidIn_61))))) (os_n (os_n (os_n (os_l (so_sipush d_Mo_liquidIn_64 (by decide))) (os_l (so_iload_n d_Mo_liquidIn_67 rfl))) (os_n (os_l (so_imul d_Mo_liquidIn_68)) (os_l (so_iload d_Mo_liquidIn_69)))) (os_n (os_n (os_l (so_iadd d_Mo_liquidIn_71)) (os_l (so_baload d_Mo_liquidIn_72))) (os_n (os_l (so_istore d_Mo_liquidIn_73 (by decide))) (os_l (so_iload d_Mo_liquidIn_75)))))) (os_n (os_n (os_n (os_n (os_l (so_ifeq d_Mo_liquidIn_77 (by decide))) (os_l (so_iload d_Mo_liquidIn_80))) (os_n (os_l (so_iload_n d_Mo_liquidIn_82 rfl)) (os_l (so_icne d_Mo_liquidIn_83 (by decide))))) (os_n (os_n (os_l (so_iload_n d_Mo_liquidIn_86 rfl)) (os_l (so_goto d_Mo_liquidIn_87 (by decide)))) (os_n (os_l (so_iload_n d_Mo_liquidIn_90 rfl)) (os_l (so_ifne d_Mo_liquidIn_91 (by decide)))))) (os_n (os_n (os_n (os_l (so_iload d_Mo_liquidIn_94)) (os_l (so_goto d_Mo_liquidIn_96 (by decide)))) (os_n (os_l (so_bipush d_Mo_liquidIn_99 (by decide))) (os_l (so_istore_n d_Mo_liquidIn_101 rfl (by decide))))) (os_n (os_n (os_l (so_iinc d_Mo_liquidIn_102 (by decide) (by decide))) (os_l (so_goto d_Mo_liquidIn_105 (by decide)))) (os_n (os_l (so_iload_n d_Mo_liquidIn_108 rfl)) (os_l (so_ireturn rfl d_Mo_liquidIn_109))))))))
abbrev t_Mo_litresIn_69 : List UInt8 := 172 :: []
abbrev t_Mo_litresIn_68 : List UInt8 := 28 :: t_Mo_litresIn_69
abbrev t_Mo_litresIn_65 : List UInt8 := 167 :: 255 :: 210 :: t_Mo_litresIn_68
abbrev t_Mo_litresIn_62 : List UInt8 := 132 :: 3 :: 1 :: t_Mo_litresIn_65
abbrev t_Mo_litresIn_61 : List UInt8 := 61 :: t_Mo_litresIn_62
abbrev t_Mo_litresIn_60 : List UInt8 := 96 :: t_Mo_litresIn_61
abbrev t_Mo_litresIn_59 : List UInt8 := 4 :: t_Mo_litresIn_60
abbrev t_Mo_litresIn_56 : List UInt8 := 167 :: 0 :: 4 :: t_Mo_litresIn_59
abbrev t_Mo_litresIn_55 : List UInt8 := 3 :: t_Mo_litresIn_56
abbrev t_Mo_litresIn_52 : List UInt8 := 154 :: 0 :: 7 :: t_Mo_litresIn_55
abbrev t_Mo_litresIn_51 : List UInt8 := 51 :: t_Mo_litresIn_52
abbrev t_Mo_litresIn_50 : List UInt8 := 96 :: t_Mo_litresIn_51
abbrev t_Mo_litresIn_49 : List UInt8 := 29 :: t_Mo_litresIn_50
abbrev t_Mo_litresIn_48 : List UInt8 := 104 :: t_Mo_litresIn_49
abbrev t_Mo_litresIn_47 : List UInt8 := 100 :: t_Mo_litresIn_48
abbrev t_Mo_litresIn_44 : List UInt8 := 180 :: 1 :: 22 :: t_Mo_litresIn_47
abbrev t_Mo_litresIn_43 : List UInt8 := 42 :: t_Mo_litresIn_44
abbrev t_Mo_litresIn_42 : List UInt8 := 27 :: t_Mo_litresIn_43
abbrev t_Mo_litresIn_39 : List UInt8 := 17 :: 0 :: 200 :: t_Mo_litresIn_42
abbrev t_Mo_litresIn_36 : List UInt8 := 180 :: 0 :: 55 :: t_Mo_litresIn_39
abbrev t_Mo_litresIn_35 : List UInt8 := 42 :: t_Mo_litresIn_36
abbrev t_Mo_litresIn_34 : List UInt8 := 28 :: t_Mo_litresIn_35
abbrev t_Mo_litresIn_31 : List UInt8 := 162 :: 0 :: 37 :: t_Mo_litresIn_34
abbrev t_Mo_litresIn_30 : List UInt8 := 46 :: t_Mo_litresIn_31
abbrev t_Mo_litresIn_29 : List UInt8 := 100 :: t_Mo_litresIn_30
abbrev t_Mo_litresIn_26 : List UInt8 := 180 :: 1 :: 22 :: t_Mo_litresIn_29
abbrev t_Mo_litresIn_25 : List UInt8 := 42 :: t_Mo_litresIn_26
abbrev t_Mo_litresIn_24 : List UInt8 := 27 :: t_Mo_litresIn_25
abbrev t_Mo_litresIn_21 : List UInt8 := 180 :: 0 :: 46 :: t_Mo_litresIn_24
abbrev t_Mo_litresIn_20 : List UInt8 := 42 :: t_Mo_litresIn_21
abbrev t_Mo_litresIn_19 : List UInt8 := 29 :: t_Mo_litresIn_20
abbrev t_Mo_litresIn_18 : List UInt8 := 62 :: t_Mo_litresIn_19
abbrev t_Mo_litresIn_17 : List UInt8 := 3 :: t_Mo_litresIn_18
abbrev t_Mo_litresIn_16 : List UInt8 := 61 :: t_Mo_litresIn_17
abbrev t_Mo_litresIn_15 : List UInt8 := 3 :: t_Mo_litresIn_16
abbrev t_Mo_litresIn_14 : List UInt8 := 172 :: t_Mo_litresIn_15
abbrev t_Mo_litresIn_13 : List UInt8 := 46 :: t_Mo_litresIn_14
abbrev t_Mo_litresIn_12 : List UInt8 := 27 :: t_Mo_litresIn_13
abbrev t_Mo_litresIn_9 : List UInt8 := 180 :: 0 :: 34 :: t_Mo_litresIn_12
abbrev t_Mo_litresIn_8 : List UInt8 := 42 :: t_Mo_litresIn_9
abbrev t_Mo_litresIn_5 : List UInt8 := 162 :: 0 :: 10 :: t_Mo_litresIn_8
abbrev t_Mo_litresIn_2 : List UInt8 := 180 :: 1 :: 22 :: t_Mo_litresIn_5
abbrev t_Mo_litresIn_1 : List UInt8 := 42 :: t_Mo_litresIn_2
abbrev t_Mo_litresIn_0 : List UInt8 := 27 :: t_Mo_litresIn_1
theorem a_Mo_litresIn_0 : dk_at b_Mo_litresIn 0 t_Mo_litresIn_0 := dk_start (by decide +kernel)
theorem a_Mo_litresIn_1 : dk_at b_Mo_litresIn 1 t_Mo_litresIn_1 := dk_go 1 a_Mo_litresIn_0 rfl
theorem a_Mo_litresIn_2 : dk_at b_Mo_litresIn 2 t_Mo_litresIn_2 := dk_go 1 a_Mo_litresIn_1 rfl
theorem a_Mo_litresIn_5 : dk_at b_Mo_litresIn 5 t_Mo_litresIn_5 := dk_go 3 a_Mo_litresIn_2 rfl
theorem a_Mo_litresIn_8 : dk_at b_Mo_litresIn 8 t_Mo_litresIn_8 := dk_go 3 a_Mo_litresIn_5 rfl
theorem a_Mo_litresIn_9 : dk_at b_Mo_litresIn 9 t_Mo_litresIn_9 := dk_go 1 a_Mo_litresIn_8 rfl
theorem a_Mo_litresIn_12 : dk_at b_Mo_litresIn 12 t_Mo_litresIn_12 := dk_go 3 a_Mo_litresIn_9 rfl
theorem a_Mo_litresIn_13 : dk_at b_Mo_litresIn 13 t_Mo_litresIn_13 := dk_go 1 a_Mo_litresIn_12 rfl
theorem a_Mo_litresIn_14 : dk_at b_Mo_litresIn 14 t_Mo_litresIn_14 := dk_go 1 a_Mo_litresIn_13 rfl
theorem a_Mo_litresIn_15 : dk_at b_Mo_litresIn 15 t_Mo_litresIn_15 := dk_go 1 a_Mo_litresIn_14 rfl
theorem a_Mo_litresIn_16 : dk_at b_Mo_litresIn 16 t_Mo_litresIn_16 := dk_go 1 a_Mo_litresIn_15 rfl
theorem a_Mo_litresIn_17 : dk_at b_Mo_litresIn 17 t_Mo_litresIn_17 := dk_go 1 a_Mo_litresIn_16 rfl
theorem a_Mo_litresIn_18 : dk_at b_Mo_litresIn 18 t_Mo_litresIn_18 := dk_go 1 a_Mo_litresIn_17 rfl
theorem a_Mo_litresIn_19 : dk_at b_Mo_litresIn 19 t_Mo_litresIn_19 := dk_go 1 a_Mo_litresIn_18 rfl
theorem a_Mo_litresIn_20 : dk_at b_Mo_litresIn 20 t_Mo_litresIn_20 := dk_go 1 a_Mo_litresIn_19 rfl
theorem a_Mo_litresIn_21 : dk_at b_Mo_litresIn 21 t_Mo_litresIn_21 := dk_go 1 a_Mo_litresIn_20 rfl
theorem a_Mo_litresIn_24 : dk_at b_Mo_litresIn 24 t_Mo_litresIn_24 := dk_go 3 a_Mo_litresIn_21 rfl
theorem a_Mo_litresIn_25 : dk_at b_Mo_litresIn 25 t_Mo_litresIn_25 := dk_go 1 a_Mo_litresIn_24 rfl
theorem a_Mo_litresIn_26 : dk_at b_Mo_litresIn 26 t_Mo_litresIn_26 := dk_go 1 a_Mo_litresIn_25 rfl
theorem a_Mo_litresIn_29 : dk_at b_Mo_litresIn 29 t_Mo_litresIn_29 := dk_go 3 a_Mo_litresIn_26 rfl
theorem a_Mo_litresIn_30 : dk_at b_Mo_litresIn 30 t_Mo_litresIn_30 := dk_go 1 a_Mo_litresIn_29 rfl
theorem a_Mo_litresIn_31 : dk_at b_Mo_litresIn 31 t_Mo_litresIn_31 := dk_go 1 a_Mo_litresIn_30 rfl
theorem a_Mo_litresIn_34 : dk_at b_Mo_litresIn 34 t_Mo_litresIn_34 := dk_go 3 a_Mo_litresIn_31 rfl
theorem a_Mo_litresIn_35 : dk_at b_Mo_litresIn 35 t_Mo_litresIn_35 := dk_go 1 a_Mo_litresIn_34 rfl
theorem a_Mo_litresIn_36 : dk_at b_Mo_litresIn 36 t_Mo_litresIn_36 := dk_go 1 a_Mo_litresIn_35 rfl
theorem a_Mo_litresIn_39 : dk_at b_Mo_litresIn 39 t_Mo_litresIn_39 := dk_go 3 a_Mo_litresIn_36 rfl
theorem a_Mo_litresIn_42 : dk_at b_Mo_litresIn 42 t_Mo_litresIn_42 := dk_go 3 a_Mo_litresIn_39 rfl
theorem a_Mo_litresIn_43 : dk_at b_Mo_litresIn 43 t_Mo_litresIn_43 := dk_go 1 a_Mo_litresIn_42 rfl
theorem a_Mo_litresIn_44 : dk_at b_Mo_litresIn 44 t_Mo_litresIn_44 := dk_go 1 a_Mo_litresIn_43 rfl
theorem a_Mo_litresIn_47 : dk_at b_Mo_litresIn 47 t_Mo_litresIn_47 := dk_go 3 a_Mo_litresIn_44 rfl
theorem a_Mo_litresIn_48 : dk_at b_Mo_litresIn 48 t_Mo_litresIn_48 := dk_go 1 a_Mo_litresIn_47 rfl
theorem a_Mo_litresIn_49 : dk_at b_Mo_litresIn 49 t_Mo_litresIn_49 := dk_go 1 a_Mo_litresIn_48 rfl
theorem a_Mo_litresIn_50 : dk_at b_Mo_litresIn 50 t_Mo_litresIn_50 := dk_go 1 a_Mo_litresIn_49 rfl
theorem a_Mo_litresIn_51 : dk_at b_Mo_litresIn 51 t_Mo_litresIn_51 := dk_go 1 a_Mo_litresIn_50 rfl
theorem a_Mo_litresIn_52 : dk_at b_Mo_litresIn 52 t_Mo_litresIn_52 := dk_go 1 a_Mo_litresIn_51 rfl
theorem a_Mo_litresIn_55 : dk_at b_Mo_litresIn 55 t_Mo_litresIn_55 := dk_go 3 a_Mo_litresIn_52 rfl
theorem a_Mo_litresIn_56 : dk_at b_Mo_litresIn 56 t_Mo_litresIn_56 := dk_go 1 a_Mo_litresIn_55 rfl
theorem a_Mo_litresIn_59 : dk_at b_Mo_litresIn 59 t_Mo_litresIn_59 := dk_go 3 a_Mo_litresIn_56 rfl
theorem a_Mo_litresIn_60 : dk_at b_Mo_litresIn 60 t_Mo_litresIn_60 := dk_go 1 a_Mo_litresIn_59 rfl
theorem a_Mo_litresIn_61 : dk_at b_Mo_litresIn 61 t_Mo_litresIn_61 := dk_go 1 a_Mo_litresIn_60 rfl
theorem a_Mo_litresIn_62 : dk_at b_Mo_litresIn 62 t_Mo_litresIn_62 := dk_go 1 a_Mo_litresIn_61 rfl
theorem a_Mo_litresIn_65 : dk_at b_Mo_litresIn 65 t_Mo_litresIn_65 := dk_go 3 a_Mo_litresIn_62 rfl
theorem a_Mo_litresIn_68 : dk_at b_Mo_litresIn 68 t_Mo_litresIn_68 := dk_go 3 a_Mo_litresIn_65 rfl
theorem a_Mo_litresIn_69 : dk_at b_Mo_litresIn 69 t_Mo_litresIn_69 := dk_go 1 a_Mo_litresIn_68 rfl
theorem d_Mo_litresIn_0 : decode b_Mo_litresIn 0 = .ok (.iload_n 1, 1) := dk_0 a_Mo_litresIn_0 (dko_27 _)
theorem d_Mo_litresIn_1 : decode b_Mo_litresIn 1 = .ok (.aload_n 0, 1) := dk_0 a_Mo_litresIn_1 (dko_42 _)
theorem d_Mo_litresIn_2 : decode b_Mo_litresIn 2 = .ok (.getfield 278, 3) := dk_U2 a_Mo_litresIn_2 (dko_180 _) rfl
theorem d_Mo_litresIn_5 : decode b_Mo_litresIn 5 = .ok (.if_icmp .ge 10, 3) := dk_S2 a_Mo_litresIn_5 (dko_162 _) (by decide +kernel)
theorem d_Mo_litresIn_8 : decode b_Mo_litresIn 8 = .ok (.aload_n 0, 1) := dk_0 a_Mo_litresIn_8 (dko_42 _)
theorem d_Mo_litresIn_9 : decode b_Mo_litresIn 9 = .ok (.getfield 34, 3) := dk_U2 a_Mo_litresIn_9 (dko_180 _) rfl
theorem d_Mo_litresIn_12 : decode b_Mo_litresIn 12 = .ok (.iload_n 1, 1) := dk_0 a_Mo_litresIn_12 (dko_27 _)
theorem d_Mo_litresIn_13 : decode b_Mo_litresIn 13 = .ok (.iaload, 1) := dk_0 a_Mo_litresIn_13 (dko_46 _)
theorem d_Mo_litresIn_14 : decode b_Mo_litresIn 14 = .ok (.ireturn, 1) := dk_0 a_Mo_litresIn_14 (dko_172 _)
theorem d_Mo_litresIn_15 : decode b_Mo_litresIn 15 = .ok (.iconst 0, 1) := dk_0 a_Mo_litresIn_15 (dko_3 _)
theorem d_Mo_litresIn_16 : decode b_Mo_litresIn 16 = .ok (.istore_n 2, 1) := dk_0 a_Mo_litresIn_16 (dko_61 _)
theorem d_Mo_litresIn_17 : decode b_Mo_litresIn 17 = .ok (.iconst 0, 1) := dk_0 a_Mo_litresIn_17 (dko_3 _)
theorem d_Mo_litresIn_18 : decode b_Mo_litresIn 18 = .ok (.istore_n 3, 1) := dk_0 a_Mo_litresIn_18 (dko_62 _)
theorem d_Mo_litresIn_19 : decode b_Mo_litresIn 19 = .ok (.iload_n 3, 1) := dk_0 a_Mo_litresIn_19 (dko_29 _)
theorem d_Mo_litresIn_20 : decode b_Mo_litresIn 20 = .ok (.aload_n 0, 1) := dk_0 a_Mo_litresIn_20 (dko_42 _)
theorem d_Mo_litresIn_21 : decode b_Mo_litresIn 21 = .ok (.getfield 46, 3) := dk_U2 a_Mo_litresIn_21 (dko_180 _) rfl
theorem d_Mo_litresIn_24 : decode b_Mo_litresIn 24 = .ok (.iload_n 1, 1) := dk_0 a_Mo_litresIn_24 (dko_27 _)
theorem d_Mo_litresIn_25 : decode b_Mo_litresIn 25 = .ok (.aload_n 0, 1) := dk_0 a_Mo_litresIn_25 (dko_42 _)
theorem d_Mo_litresIn_26 : decode b_Mo_litresIn 26 = .ok (.getfield 278, 3) := dk_U2 a_Mo_litresIn_26 (dko_180 _) rfl
theorem d_Mo_litresIn_29 : decode b_Mo_litresIn 29 = .ok (.isub, 1) := dk_0 a_Mo_litresIn_29 (dko_100 _)
theorem d_Mo_litresIn_30 : decode b_Mo_litresIn 30 = .ok (.iaload, 1) := dk_0 a_Mo_litresIn_30 (dko_46 _)
theorem d_Mo_litresIn_31 : decode b_Mo_litresIn 31 = .ok (.if_icmp .ge 37, 3) := dk_S2 a_Mo_litresIn_31 (dko_162 _) (by decide +kernel)
theorem d_Mo_litresIn_34 : decode b_Mo_litresIn 34 = .ok (.iload_n 2, 1) := dk_0 a_Mo_litresIn_34 (dko_28 _)
theorem d_Mo_litresIn_35 : decode b_Mo_litresIn 35 = .ok (.aload_n 0, 1) := dk_0 a_Mo_litresIn_35 (dko_42 _)
theorem d_Mo_litresIn_36 : decode b_Mo_litresIn 36 = .ok (.getfield 55, 3) := dk_U2 a_Mo_litresIn_36 (dko_180 _) rfl
theorem d_Mo_litresIn_39 : decode b_Mo_litresIn 39 = .ok (.sipush 200, 3) := dk_S2 a_Mo_litresIn_39 (dko_17 _) (by decide +kernel)
theorem d_Mo_litresIn_42 : decode b_Mo_litresIn 42 = .ok (.iload_n 1, 1) := dk_0 a_Mo_litresIn_42 (dko_27 _)
theorem d_Mo_litresIn_43 : decode b_Mo_litresIn 43 = .ok (.aload_n 0, 1) := dk_0 a_Mo_litresIn_43 (dko_42 _)
theorem d_Mo_litresIn_44 : decode b_Mo_litresIn 44 = .ok (.getfield 278, 3) := dk_U2 a_Mo_litresIn_44 (dko_180 _) rfl
theorem d_Mo_litresIn_47 : decode b_Mo_litresIn 47 = .ok (.isub, 1) := dk_0 a_Mo_litresIn_47 (dko_100 _)
theorem d_Mo_litresIn_48 : decode b_Mo_litresIn 48 = .ok (.imul, 1) := dk_0 a_Mo_litresIn_48 (dko_104 _)
theorem d_Mo_litresIn_49 : decode b_Mo_litresIn 49 = .ok (.iload_n 3, 1) := dk_0 a_Mo_litresIn_49 (dko_29 _)
theorem d_Mo_litresIn_50 : decode b_Mo_litresIn 50 = .ok (.iadd, 1) := dk_0 a_Mo_litresIn_50 (dko_96 _)
theorem d_Mo_litresIn_51 : decode b_Mo_litresIn 51 = .ok (.baload, 1) := dk_0 a_Mo_litresIn_51 (dko_51 _)
theorem d_Mo_litresIn_52 : decode b_Mo_litresIn 52 = .ok (.ifCond .ne 7, 3) := dk_S2 a_Mo_litresIn_52 (dko_154 _) (by decide +kernel)
theorem d_Mo_litresIn_55 : decode b_Mo_litresIn 55 = .ok (.iconst 0, 1) := dk_0 a_Mo_litresIn_55 (dko_3 _)
theorem d_Mo_litresIn_56 : decode b_Mo_litresIn 56 = .ok (.goto 4, 3) := dk_S2 a_Mo_litresIn_56 (dko_167 _) (by decide +kernel)
theorem d_Mo_litresIn_59 : decode b_Mo_litresIn 59 = .ok (.iconst 1, 1) := dk_0 a_Mo_litresIn_59 (dko_4 _)
theorem d_Mo_litresIn_60 : decode b_Mo_litresIn 60 = .ok (.iadd, 1) := dk_0 a_Mo_litresIn_60 (dko_96 _)
theorem d_Mo_litresIn_61 : decode b_Mo_litresIn 61 = .ok (.istore_n 2, 1) := dk_0 a_Mo_litresIn_61 (dko_61 _)
theorem d_Mo_litresIn_62 : decode b_Mo_litresIn 62 = .ok (.iinc 3 1, 3) := dk_US a_Mo_litresIn_62 (dko_132 _) (by decide +kernel)
theorem d_Mo_litresIn_65 : decode b_Mo_litresIn 65 = .ok (.goto (-46), 3) := dk_S2 a_Mo_litresIn_65 (dko_167 _) (by decide +kernel)
theorem d_Mo_litresIn_68 : decode b_Mo_litresIn 68 = .ok (.iload_n 2, 1) := dk_0 a_Mo_litresIn_68 (dko_28 _)
theorem d_Mo_litresIn_69 : decode b_Mo_litresIn 69 = .ok (.ireturn, 1) := dk_0 a_Mo_litresIn_69 (dko_172 _)
set_option maxHeartbeats 4000000 in
set_option maxRecDepth 100000 in
theorem ok_Mo_litresIn (pc : Nat) : OpS mt mi_Mo_litresIn pc (cs_Mo_litresIn pc) := (os_n (os_n (os_n (os_n (os_n (os_l (so_iload_n d_Mo_litresIn_0 rfl)) (os_l (so_aload_n d_Mo_litresIn_1 rfl))) (os_n (os_l (so_get (C := R_Mo) (T := F_Mo) (N := 87) (j := 4) in_Mo rfl (by decide) mw_1798 d_Mo_litresIn_2)) (os_n (os_l (so_icge d_Mo_litresIn_5 (by decide))) (os_l (so_aload_n d_Mo_litresIn_8 rfl))))) (os_n (os_n (os_l (so_get (C := R_Mo) (T := F_Mo) (N := 87) (j := 7) in_Mo rfl (by decide) mw_1801 d_Mo_litresIn_9)) (os_n (os_l (so_iload_n d_Mo_litresIn_12 rfl)) (os_l (so_iaload d_Mo_litresIn_13)))) (os_n (os_l (so_ireturn rfl d_Mo_litresIn_14)) (os_n (os_l (so_iconst d_Mo_litresIn_15 (by decide))) (os_l (so_istore_n d_Mo_litresIn_16 rfl (by decide))))))) (os_n (os_n (os_n (os_l (so_iconst d_Mo_litresIn_17 (by decide))) (os_l (so_istore_n d_Mo_litresIn_18 rfl (by decide)))) (os_n (os_l (so_iload_n d_Mo_litresIn_19 rfl)) (os_n (os_l (so_aload_n d_Mo_litresIn_20 rfl)) (os_l (so_get (C := R_Mo) (T := F_Mo) (N := 87) (j := 12) in_Mo rfl (by decide) mw_1806 d_Mo_litresIn_21))))) (os_n (os_n (os_l (so_iload_n d_Mo_litresIn_24 rfl)) (os_n (os_l (so_aload_n d_Mo_litresIn_25 rfl)) (os_l (so_get (C := R_Mo) (T := F_Mo) (N := 87) (j := 4) in_Mo rfl (by decide) mw_1798 d_Mo_litresIn_26)))) (os_n (os_l (so_isub d_Mo_litresIn_29)) (os_n (os_l (so_iaload d_Mo_litresIn_30)) (os_l (so_icge d_Mo_litresIn_31 (by decide)))))))) (os_n (os_n (os_n (os_n (os_l (so_iload_n d_Mo_litresIn_34 rfl)) (os_l (so_aload_n d_Mo_litresIn_35 rfl))) (os_n (os_l (so_get (C := R_Mo) (T := F_Mo) (N := 87) (j := 15) in_Mo rfl (by decide) mw_1809 d_Mo_litresIn_36)) (os_n (os_l (so_sipush d_Mo_litresIn_39 (by decide))) (os_l (so_iload_n d_Mo_litresIn_42 rfl))))) (os_n (os_n (os_l (so_aload_n d_Mo_litresIn_43 rfl)) (os_n (os_l (so_get (C := R_Mo) (T := F_Mo) (N := 87) (j := 4) in_Mo rfl (by decide) mw_1798 d_Mo_litresIn_44)) (os_l (so_isub d_Mo_litresIn_47)))) (os_n (os_l (so_imul d_Mo_litresIn_48)) (os_n (os_l (so_iload_n d_Mo_litresIn_49 rfl)) (os_l (so_iadd d_Mo_litresIn_50)))))) (os_n (os_n (os_n (os_l (so_baload d_Mo_litresIn_51)) (os_l (so_ifne d_Mo_litresIn_52 (by decide)))) (os_n (os_l (so_iconst d_Mo_litresIn_55 (by decide))) (os_n (os_l (so_goto d_Mo_litresIn_56 (by decide))) (os_l (so_iconst d_Mo_litresIn_59 (by decide)))))) (os_n (os_n (os_l (so_iadd d_Mo_litresIn_60)) (os_n (os_l (so_istore_n d_Mo_litresIn_61 rfl (by decide))) (os_l (so_iinc d_Mo_litresIn_62 (by decide) (by decide))))) (os_n (os_l (so_goto d_Mo_litresIn_65 (by decide))) (os_n (os_l (so_iload_n d_Mo_litresIn_68 rfl)) (os_l (so_ireturn rfl d_Mo_litresIn_69))))))))
abbrev t_Mo_forget_26 : List UInt8 := 177 :: []
abbrev t_Mo_forget_23 : List UInt8 := 167 :: 255 :: 235 :: t_Mo_forget_26
abbrev t_Mo_forget_20 : List UInt8 := 132 :: 2 :: 1 :: t_Mo_forget_23
abbrev t_Mo_forget_19 : List UInt8 := 79 :: t_Mo_forget_20
abbrev t_Mo_forget_18 : List UInt8 := 2 :: t_Mo_forget_19
abbrev t_Mo_forget_17 : List UInt8 := 96 :: t_Mo_forget_18
abbrev t_Mo_forget_16 : List UInt8 := 28 :: t_Mo_forget_17
abbrev t_Mo_forget_15 : List UInt8 := 104 :: t_Mo_forget_16
abbrev t_Mo_forget_14 : List UInt8 := 27 :: t_Mo_forget_15
abbrev t_Mo_forget_12 : List UInt8 := 16 :: 6 :: t_Mo_forget_14
abbrev t_Mo_forget_9 : List UInt8 := 180 :: 0 :: 61 :: t_Mo_forget_12
abbrev t_Mo_forget_8 : List UInt8 := 42 :: t_Mo_forget_9
abbrev t_Mo_forget_5 : List UInt8 := 162 :: 0 :: 21 :: t_Mo_forget_8
abbrev t_Mo_forget_3 : List UInt8 := 16 :: 6 :: t_Mo_forget_5
abbrev t_Mo_forget_2 : List UInt8 := 28 :: t_Mo_forget_3
abbrev t_Mo_forget_1 : List UInt8 := 61 :: t_Mo_forget_2
abbrev t_Mo_forget_0 : List UInt8 := 3 :: t_Mo_forget_1
theorem a_Mo_forget_0 : dk_at b_Mo_forget 0 t_Mo_forget_0 := dk_start (by decide +kernel)
theorem a_Mo_forget_1 : dk_at b_Mo_forget 1 t_Mo_forget_1 := dk_go 1 a_Mo_forget_0 rfl
theorem a_Mo_forget_2 : dk_at b_Mo_forget 2 t_Mo_forget_2 := dk_go 1 a_Mo_forget_1 rfl
theorem a_Mo_forget_3 : dk_at b_Mo_forget 3 t_Mo_forget_3 := dk_go 1 a_Mo_forget_2 rfl
theorem a_Mo_forget_5 : dk_at b_Mo_forget 5 t_Mo_forget_5 := dk_go 2 a_Mo_forget_3 rfl
theorem a_Mo_forget_8 : dk_at b_Mo_forget 8 t_Mo_forget_8 := dk_go 3 a_Mo_forget_5 rfl
theorem a_Mo_forget_9 : dk_at b_Mo_forget 9 t_Mo_forget_9 := dk_go 1 a_Mo_forget_8 rfl
theorem a_Mo_forget_12 : dk_at b_Mo_forget 12 t_Mo_forget_12 := dk_go 3 a_Mo_forget_9 rfl
theorem a_Mo_forget_14 : dk_at b_Mo_forget 14 t_Mo_forget_14 := dk_go 2 a_Mo_forget_12 rfl
theorem a_Mo_forget_15 : dk_at b_Mo_forget 15 t_Mo_forget_15 := dk_go 1 a_Mo_forget_14 rfl
theorem a_Mo_forget_16 : dk_at b_Mo_forget 16 t_Mo_forget_16 := dk_go 1 a_Mo_forget_15 rfl
theorem a_Mo_forget_17 : dk_at b_Mo_forget 17 t_Mo_forget_17 := dk_go 1 a_Mo_forget_16 rfl
theorem a_Mo_forget_18 : dk_at b_Mo_forget 18 t_Mo_forget_18 := dk_go 1 a_Mo_forget_17 rfl
theorem a_Mo_forget_19 : dk_at b_Mo_forget 19 t_Mo_forget_19 := dk_go 1 a_Mo_forget_18 rfl
theorem a_Mo_forget_20 : dk_at b_Mo_forget 20 t_Mo_forget_20 := dk_go 1 a_Mo_forget_19 rfl
theorem a_Mo_forget_23 : dk_at b_Mo_forget 23 t_Mo_forget_23 := dk_go 3 a_Mo_forget_20 rfl
theorem a_Mo_forget_26 : dk_at b_Mo_forget 26 t_Mo_forget_26 := dk_go 3 a_Mo_forget_23 rfl
theorem d_Mo_forget_0 : decode b_Mo_forget 0 = .ok (.iconst 0, 1) := dk_0 a_Mo_forget_0 (dko_3 _)
theorem d_Mo_forget_1 : decode b_Mo_forget 1 = .ok (.istore_n 2, 1) := dk_0 a_Mo_forget_1 (dko_61 _)
theorem d_Mo_forget_2 : decode b_Mo_forget 2 = .ok (.iload_n 2, 1) := dk_0 a_Mo_forget_2 (dko_28 _)
theorem d_Mo_forget_3 : decode b_Mo_forget 3 = .ok (.bipush 6, 2) := dk_S1 a_Mo_forget_3 (dko_16 _) (by decide +kernel)
theorem d_Mo_forget_5 : decode b_Mo_forget 5 = .ok (.if_icmp .ge 21, 3) := dk_S2 a_Mo_forget_5 (dko_162 _) (by decide +kernel)
theorem d_Mo_forget_8 : decode b_Mo_forget 8 = .ok (.aload_n 0, 1) := dk_0 a_Mo_forget_8 (dko_42 _)
theorem d_Mo_forget_9 : decode b_Mo_forget 9 = .ok (.getfield 61, 3) := dk_U2 a_Mo_forget_9 (dko_180 _) rfl
theorem d_Mo_forget_12 : decode b_Mo_forget 12 = .ok (.bipush 6, 2) := dk_S1 a_Mo_forget_12 (dko_16 _) (by decide +kernel)
theorem d_Mo_forget_14 : decode b_Mo_forget 14 = .ok (.iload_n 1, 1) := dk_0 a_Mo_forget_14 (dko_27 _)
theorem d_Mo_forget_15 : decode b_Mo_forget 15 = .ok (.imul, 1) := dk_0 a_Mo_forget_15 (dko_104 _)
theorem d_Mo_forget_16 : decode b_Mo_forget 16 = .ok (.iload_n 2, 1) := dk_0 a_Mo_forget_16 (dko_28 _)
theorem d_Mo_forget_17 : decode b_Mo_forget 17 = .ok (.iadd, 1) := dk_0 a_Mo_forget_17 (dko_96 _)
theorem d_Mo_forget_18 : decode b_Mo_forget 18 = .ok (.iconst (-1), 1) := dk_0 a_Mo_forget_18 (dko_2 _)
theorem d_Mo_forget_19 : decode b_Mo_forget 19 = .ok (.iastore, 1) := dk_0 a_Mo_forget_19 (dko_79 _)
theorem d_Mo_forget_20 : decode b_Mo_forget 20 = .ok (.iinc 2 1, 3) := dk_US a_Mo_forget_20 (dko_132 _) (by decide +kernel)
theorem d_Mo_forget_23 : decode b_Mo_forget 23 = .ok (.goto (-21), 3) := dk_S2 a_Mo_forget_23 (dko_167 _) (by decide +kernel)
theorem d_Mo_forget_26 : decode b_Mo_forget 26 = .ok (.return_, 1) := dk_0 a_Mo_forget_26 (dko_177 _)
set_option maxHeartbeats 4000000 in
set_option maxRecDepth 100000 in
theorem ok_Mo_forget (pc : Nat) : OpS mt mi_Mo_forget pc (cs_Mo_forget pc) := (os_n (os_n (os_n (os_n (os_l (so_iconst d_Mo_forget_0 (by decide))) (os_l (so_istore_n d_Mo_forget_1 rfl (by decide)))) (os_n (os_l (so_iload_n d_Mo_forget_2 rfl)) (os_l (so_bipush d_Mo_forget_3 (by decide))))) (os_n (os_n (os_l (so_icge d_Mo_forget_5 (by decide))) (os_l (so_aload_n d_Mo_forget_8 rfl))) (os_n (os_l (so_get (C := R_Mo) (T := F_Mo) (N := 87) (j := 17) in_Mo rfl (by decide) mw_1811 d_Mo_forget_9)) (os_l (so_bipush d_Mo_forget_12 (by decide)))))) (os_n (os_n (os_n (os_l (so_iload_n d_Mo_forget_14 rfl)) (os_l (so_imul d_Mo_forget_15))) (os_n (os_l (so_iload_n d_Mo_forget_16 rfl)) (os_l (so_iadd d_Mo_forget_17)))) (os_n (os_n (os_l (so_iconst d_Mo_forget_18 (by decide))) (os_l (so_iastore d_Mo_forget_19))) (os_n (os_l (so_iinc d_Mo_forget_20 (by decide) (by decide))) (os_n (os_l (so_goto d_Mo_forget_23 (by decide))) (os_l (so_return rfl d_Mo_forget_26)))))))
abbrev t_Mo_note_22 : List UInt8 := 177 :: []
abbrev t_Mo_note_19 : List UInt8 := 182 :: 1 :: 35 :: t_Mo_note_22
abbrev t_Mo_note_18 : List UInt8 := 27 :: t_Mo_note_19
abbrev t_Mo_note_17 : List UInt8 := 42 :: t_Mo_note_18
abbrev t_Mo_note_16 : List UInt8 := 79 :: t_Mo_note_17
abbrev t_Mo_note_15 : List UInt8 := 28 :: t_Mo_note_16
abbrev t_Mo_note_14 : List UInt8 := 27 :: t_Mo_note_15
abbrev t_Mo_note_11 : List UInt8 := 180 :: 0 :: 58 :: t_Mo_note_14
abbrev t_Mo_note_10 : List UInt8 := 42 :: t_Mo_note_11
abbrev t_Mo_note_7 : List UInt8 := 158 :: 0 :: 15 :: t_Mo_note_10
abbrev t_Mo_note_6 : List UInt8 := 28 :: t_Mo_note_7
abbrev t_Mo_note_5 : List UInt8 := 61 :: t_Mo_note_6
abbrev t_Mo_note_2 : List UInt8 := 182 :: 1 :: 67 :: t_Mo_note_5
abbrev t_Mo_note_1 : List UInt8 := 27 :: t_Mo_note_2
abbrev t_Mo_note_0 : List UInt8 := 42 :: t_Mo_note_1
theorem a_Mo_note_0 : dk_at b_Mo_note 0 t_Mo_note_0 := dk_start (by decide +kernel)
theorem a_Mo_note_1 : dk_at b_Mo_note 1 t_Mo_note_1 := dk_go 1 a_Mo_note_0 rfl
theorem a_Mo_note_2 : dk_at b_Mo_note 2 t_Mo_note_2 := dk_go 1 a_Mo_note_1 rfl
theorem a_Mo_note_5 : dk_at b_Mo_note 5 t_Mo_note_5 := dk_go 3 a_Mo_note_2 rfl
theorem a_Mo_note_6 : dk_at b_Mo_note 6 t_Mo_note_6 := dk_go 1 a_Mo_note_5 rfl
theorem a_Mo_note_7 : dk_at b_Mo_note 7 t_Mo_note_7 := dk_go 1 a_Mo_note_6 rfl
theorem a_Mo_note_10 : dk_at b_Mo_note 10 t_Mo_note_10 := dk_go 3 a_Mo_note_7 rfl
theorem a_Mo_note_11 : dk_at b_Mo_note 11 t_Mo_note_11 := dk_go 1 a_Mo_note_10 rfl
theorem a_Mo_note_14 : dk_at b_Mo_note 14 t_Mo_note_14 := dk_go 3 a_Mo_note_11 rfl
theorem a_Mo_note_15 : dk_at b_Mo_note 15 t_Mo_note_15 := dk_go 1 a_Mo_note_14 rfl
theorem a_Mo_note_16 : dk_at b_Mo_note 16 t_Mo_note_16 := dk_go 1 a_Mo_note_15 rfl
theorem a_Mo_note_17 : dk_at b_Mo_note 17 t_Mo_note_17 := dk_go 1 a_Mo_note_16 rfl
theorem a_Mo_note_18 : dk_at b_Mo_note 18 t_Mo_note_18 := dk_go 1 a_Mo_note_17 rfl
theorem a_Mo_note_19 : dk_at b_Mo_note 19 t_Mo_note_19 := dk_go 1 a_Mo_note_18 rfl
theorem a_Mo_note_22 : dk_at b_Mo_note 22 t_Mo_note_22 := dk_go 3 a_Mo_note_19 rfl
theorem d_Mo_note_0 : decode b_Mo_note 0 = .ok (.aload_n 0, 1) := dk_0 a_Mo_note_0 (dko_42 _)
theorem d_Mo_note_1 : decode b_Mo_note 1 = .ok (.iload_n 1, 1) := dk_0 a_Mo_note_1 (dko_27 _)
theorem d_Mo_note_2 : decode b_Mo_note 2 = .ok (.invokevirtual 323, 3) := dk_U2 a_Mo_note_2 (dko_182 _) rfl
theorem d_Mo_note_5 : decode b_Mo_note 5 = .ok (.istore_n 2, 1) := dk_0 a_Mo_note_5 (dko_61 _)
theorem d_Mo_note_6 : decode b_Mo_note 6 = .ok (.iload_n 2, 1) := dk_0 a_Mo_note_6 (dko_28 _)
theorem d_Mo_note_7 : decode b_Mo_note 7 = .ok (.ifCond .le 15, 3) := dk_S2 a_Mo_note_7 (dko_158 _) (by decide +kernel)
theorem d_Mo_note_10 : decode b_Mo_note 10 = .ok (.aload_n 0, 1) := dk_0 a_Mo_note_10 (dko_42 _)
theorem d_Mo_note_11 : decode b_Mo_note 11 = .ok (.getfield 58, 3) := dk_U2 a_Mo_note_11 (dko_180 _) rfl
theorem d_Mo_note_14 : decode b_Mo_note 14 = .ok (.iload_n 1, 1) := dk_0 a_Mo_note_14 (dko_27 _)
theorem d_Mo_note_15 : decode b_Mo_note 15 = .ok (.iload_n 2, 1) := dk_0 a_Mo_note_15 (dko_28 _)
theorem d_Mo_note_16 : decode b_Mo_note 16 = .ok (.iastore, 1) := dk_0 a_Mo_note_16 (dko_79 _)
theorem d_Mo_note_17 : decode b_Mo_note 17 = .ok (.aload_n 0, 1) := dk_0 a_Mo_note_17 (dko_42 _)
theorem d_Mo_note_18 : decode b_Mo_note 18 = .ok (.iload_n 1, 1) := dk_0 a_Mo_note_18 (dko_27 _)
theorem d_Mo_note_19 : decode b_Mo_note 19 = .ok (.invokevirtual 291, 3) := dk_U2 a_Mo_note_19 (dko_182 _) rfl
theorem d_Mo_note_22 : decode b_Mo_note 22 = .ok (.return_, 1) := dk_0 a_Mo_note_22 (dko_177 _)
set_option maxHeartbeats 4000000 in
set_option maxRecDepth 100000 in
theorem ok_Mo_note (pc : Nat) : OpS mt mi_Mo_note pc (cs_Mo_note pc) := (os_n (os_n (os_n (os_l (so_aload_n d_Mo_note_0 rfl)) (os_n (os_l (so_iload_n d_Mo_note_1 rfl)) (os_l (so_callV (iv := mi_Mo_liquidIn) rfl rfl rfl mw_2373 mw_2375 sl_146 mw_18 mw_2376 ⟨by decide +kernel, by decide +kernel, by decide +kernel⟩ (by decide) d_Mo_note_2)))) (os_n (os_n (os_l (so_istore_n d_Mo_note_5 rfl (by decide))) (os_l (so_iload_n d_Mo_note_6 rfl))) (os_n (os_l (so_ifle d_Mo_note_7 (by decide))) (os_l (so_aload_n d_Mo_note_10 rfl))))) (os_n (os_n (os_n (os_l (so_get (C := R_Mo) (T := F_Mo) (N := 87) (j := 16) in_Mo rfl (by decide) mw_1810 d_Mo_note_11)) (os_l (so_iload_n d_Mo_note_14 rfl))) (os_n (os_l (so_iload_n d_Mo_note_15 rfl)) (os_l (so_iastore d_Mo_note_16)))) (os_n (os_n (os_l (so_aload_n d_Mo_note_17 rfl)) (os_l (so_iload_n d_Mo_note_18 rfl))) (os_n (os_l (so_callV (iv := mi_Mo_forget) rfl rfl rfl mw_2103 mw_2105 sl_96 mw_18 mw_2106 ⟨by decide +kernel, by decide +kernel, by decide +kernel⟩ (by decide) d_Mo_note_19)) (os_l (so_return rfl d_Mo_note_22))))))
abbrev t_Mo_level_86 : List UInt8 := 172 :: []
abbrev t_Mo_level_85 : List UInt8 := 3 :: t_Mo_level_86
abbrev t_Mo_level_82 : List UInt8 := 167 :: 255 :: 197 :: t_Mo_level_85
abbrev t_Mo_level_79 : List UInt8 := 132 :: 3 :: 255 :: t_Mo_level_82
abbrev t_Mo_level_78 : List UInt8 := 172 :: t_Mo_level_79
abbrev t_Mo_level_77 : List UInt8 := 29 :: t_Mo_level_78
abbrev t_Mo_level_74 : List UInt8 := 162 :: 0 :: 5 :: t_Mo_level_77
abbrev t_Mo_level_73 : List UInt8 := 46 :: t_Mo_level_74
abbrev t_Mo_level_72 : List UInt8 := 29 :: t_Mo_level_73
abbrev t_Mo_level_69 : List UInt8 := 180 :: 0 :: 71 :: t_Mo_level_72
abbrev t_Mo_level_68 : List UInt8 := 42 :: t_Mo_level_69
abbrev t_Mo_level_67 : List UInt8 := 100 :: t_Mo_level_68
abbrev t_Mo_level_66 : List UInt8 := 28 :: t_Mo_level_67
abbrev t_Mo_level_63 : List UInt8 := 180 :: 1 :: 70 :: t_Mo_level_66
abbrev t_Mo_level_62 : List UInt8 := 42 :: t_Mo_level_63
abbrev t_Mo_level_59 : List UInt8 := 155 :: 0 :: 20 :: t_Mo_level_62
abbrev t_Mo_level_58 : List UInt8 := 28 :: t_Mo_level_59
abbrev t_Mo_level_57 : List UInt8 := 61 :: t_Mo_level_58
abbrev t_Mo_level_56 : List UInt8 := 28 :: t_Mo_level_57
abbrev t_Mo_level_53 : List UInt8 := 167 :: 0 :: 4 :: t_Mo_level_56
abbrev t_Mo_level_52 : List UInt8 := 46 :: t_Mo_level_53
abbrev t_Mo_level_51 : List UInt8 := 96 :: t_Mo_level_52
abbrev t_Mo_level_50 : List UInt8 := 29 :: t_Mo_level_51
abbrev t_Mo_level_49 : List UInt8 := 104 :: t_Mo_level_50
abbrev t_Mo_level_48 : List UInt8 := 27 :: t_Mo_level_49
abbrev t_Mo_level_46 : List UInt8 := 16 :: 6 :: t_Mo_level_48
abbrev t_Mo_level_43 : List UInt8 := 180 :: 0 :: 61 :: t_Mo_level_46
abbrev t_Mo_level_42 : List UInt8 := 42 :: t_Mo_level_43
abbrev t_Mo_level_39 : List UInt8 := 164 :: 0 :: 17 :: t_Mo_level_42
abbrev t_Mo_level_38 : List UInt8 := 28 :: t_Mo_level_39
abbrev t_Mo_level_37 : List UInt8 := 46 :: t_Mo_level_38
abbrev t_Mo_level_36 : List UInt8 := 96 :: t_Mo_level_37
abbrev t_Mo_level_35 : List UInt8 := 29 :: t_Mo_level_36
abbrev t_Mo_level_34 : List UInt8 := 104 :: t_Mo_level_35
abbrev t_Mo_level_33 : List UInt8 := 27 :: t_Mo_level_34
abbrev t_Mo_level_31 : List UInt8 := 16 :: 6 :: t_Mo_level_33
abbrev t_Mo_level_28 : List UInt8 := 180 :: 0 :: 61 :: t_Mo_level_31
abbrev t_Mo_level_27 : List UInt8 := 42 :: t_Mo_level_28
abbrev t_Mo_level_24 : List UInt8 := 158 :: 0 :: 61 :: t_Mo_level_27
abbrev t_Mo_level_23 : List UInt8 := 29 :: t_Mo_level_24
abbrev t_Mo_level_22 : List UInt8 := 62 :: t_Mo_level_23
abbrev t_Mo_level_21 : List UInt8 := 8 :: t_Mo_level_22
abbrev t_Mo_level_20 : List UInt8 := 61 :: t_Mo_level_21
abbrev t_Mo_level_19 : List UInt8 := 2 :: t_Mo_level_20
abbrev t_Mo_level_18 : List UInt8 := 172 :: t_Mo_level_19
abbrev t_Mo_level_17 : List UInt8 := 3 :: t_Mo_level_18
abbrev t_Mo_level_14 : List UInt8 := 154 :: 0 :: 5 :: t_Mo_level_17
abbrev t_Mo_level_13 : List UInt8 := 46 :: t_Mo_level_14
abbrev t_Mo_level_12 : List UInt8 := 27 :: t_Mo_level_13
abbrev t_Mo_level_9 : List UInt8 := 180 :: 0 :: 58 :: t_Mo_level_12
abbrev t_Mo_level_8 : List UInt8 := 42 :: t_Mo_level_9
abbrev t_Mo_level_5 : List UInt8 := 157 :: 0 :: 12 :: t_Mo_level_8
abbrev t_Mo_level_2 : List UInt8 := 182 :: 1 :: 67 :: t_Mo_level_5
abbrev t_Mo_level_1 : List UInt8 := 27 :: t_Mo_level_2
abbrev t_Mo_level_0 : List UInt8 := 42 :: t_Mo_level_1
theorem a_Mo_level_0 : dk_at b_Mo_level 0 t_Mo_level_0 := dk_start (by decide +kernel)
theorem a_Mo_level_1 : dk_at b_Mo_level 1 t_Mo_level_1 := dk_go 1 a_Mo_level_0 rfl
theorem a_Mo_level_2 : dk_at b_Mo_level 2 t_Mo_level_2 := dk_go 1 a_Mo_level_1 rfl
theorem a_Mo_level_5 : dk_at b_Mo_level 5 t_Mo_level_5 := dk_go 3 a_Mo_level_2 rfl
theorem a_Mo_level_8 : dk_at b_Mo_level 8 t_Mo_level_8 := dk_go 3 a_Mo_level_5 rfl
theorem a_Mo_level_9 : dk_at b_Mo_level 9 t_Mo_level_9 := dk_go 1 a_Mo_level_8 rfl
theorem a_Mo_level_12 : dk_at b_Mo_level 12 t_Mo_level_12 := dk_go 3 a_Mo_level_9 rfl
theorem a_Mo_level_13 : dk_at b_Mo_level 13 t_Mo_level_13 := dk_go 1 a_Mo_level_12 rfl
theorem a_Mo_level_14 : dk_at b_Mo_level 14 t_Mo_level_14 := dk_go 1 a_Mo_level_13 rfl
theorem a_Mo_level_17 : dk_at b_Mo_level 17 t_Mo_level_17 := dk_go 3 a_Mo_level_14 rfl
theorem a_Mo_level_18 : dk_at b_Mo_level 18 t_Mo_level_18 := dk_go 1 a_Mo_level_17 rfl
theorem a_Mo_level_19 : dk_at b_Mo_level 19 t_Mo_level_19 := dk_go 1 a_Mo_level_18 rfl
theorem a_Mo_level_20 : dk_at b_Mo_level 20 t_Mo_level_20 := dk_go 1 a_Mo_level_19 rfl
theorem a_Mo_level_21 : dk_at b_Mo_level 21 t_Mo_level_21 := dk_go 1 a_Mo_level_20 rfl
theorem a_Mo_level_22 : dk_at b_Mo_level 22 t_Mo_level_22 := dk_go 1 a_Mo_level_21 rfl
theorem a_Mo_level_23 : dk_at b_Mo_level 23 t_Mo_level_23 := dk_go 1 a_Mo_level_22 rfl
theorem a_Mo_level_24 : dk_at b_Mo_level 24 t_Mo_level_24 := dk_go 1 a_Mo_level_23 rfl
theorem a_Mo_level_27 : dk_at b_Mo_level 27 t_Mo_level_27 := dk_go 3 a_Mo_level_24 rfl
theorem a_Mo_level_28 : dk_at b_Mo_level 28 t_Mo_level_28 := dk_go 1 a_Mo_level_27 rfl
theorem a_Mo_level_31 : dk_at b_Mo_level 31 t_Mo_level_31 := dk_go 3 a_Mo_level_28 rfl
theorem a_Mo_level_33 : dk_at b_Mo_level 33 t_Mo_level_33 := dk_go 2 a_Mo_level_31 rfl
theorem a_Mo_level_34 : dk_at b_Mo_level 34 t_Mo_level_34 := dk_go 1 a_Mo_level_33 rfl
theorem a_Mo_level_35 : dk_at b_Mo_level 35 t_Mo_level_35 := dk_go 1 a_Mo_level_34 rfl
theorem a_Mo_level_36 : dk_at b_Mo_level 36 t_Mo_level_36 := dk_go 1 a_Mo_level_35 rfl
theorem a_Mo_level_37 : dk_at b_Mo_level 37 t_Mo_level_37 := dk_go 1 a_Mo_level_36 rfl
theorem a_Mo_level_38 : dk_at b_Mo_level 38 t_Mo_level_38 := dk_go 1 a_Mo_level_37 rfl
theorem a_Mo_level_39 : dk_at b_Mo_level 39 t_Mo_level_39 := dk_go 1 a_Mo_level_38 rfl
theorem a_Mo_level_42 : dk_at b_Mo_level 42 t_Mo_level_42 := dk_go 3 a_Mo_level_39 rfl
theorem a_Mo_level_43 : dk_at b_Mo_level 43 t_Mo_level_43 := dk_go 1 a_Mo_level_42 rfl
theorem a_Mo_level_46 : dk_at b_Mo_level 46 t_Mo_level_46 := dk_go 3 a_Mo_level_43 rfl
theorem a_Mo_level_48 : dk_at b_Mo_level 48 t_Mo_level_48 := dk_go 2 a_Mo_level_46 rfl
theorem a_Mo_level_49 : dk_at b_Mo_level 49 t_Mo_level_49 := dk_go 1 a_Mo_level_48 rfl
theorem a_Mo_level_50 : dk_at b_Mo_level 50 t_Mo_level_50 := dk_go 1 a_Mo_level_49 rfl
theorem a_Mo_level_51 : dk_at b_Mo_level 51 t_Mo_level_51 := dk_go 1 a_Mo_level_50 rfl
theorem a_Mo_level_52 : dk_at b_Mo_level 52 t_Mo_level_52 := dk_go 1 a_Mo_level_51 rfl
theorem a_Mo_level_53 : dk_at b_Mo_level 53 t_Mo_level_53 := dk_go 1 a_Mo_level_52 rfl
theorem a_Mo_level_56 : dk_at b_Mo_level 56 t_Mo_level_56 := dk_go 3 a_Mo_level_53 rfl
theorem a_Mo_level_57 : dk_at b_Mo_level 57 t_Mo_level_57 := dk_go 1 a_Mo_level_56 rfl
theorem a_Mo_level_58 : dk_at b_Mo_level 58 t_Mo_level_58 := dk_go 1 a_Mo_level_57 rfl
theorem a_Mo_level_59 : dk_at b_Mo_level 59 t_Mo_level_59 := dk_go 1 a_Mo_level_58 rfl
theorem a_Mo_level_62 : dk_at b_Mo_level 62 t_Mo_level_62 := dk_go 3 a_Mo_level_59 rfl
theorem a_Mo_level_63 : dk_at b_Mo_level 63 t_Mo_level_63 := dk_go 1 a_Mo_level_62 rfl
theorem a_Mo_level_66 : dk_at b_Mo_level 66 t_Mo_level_66 := dk_go 3 a_Mo_level_63 rfl
theorem a_Mo_level_67 : dk_at b_Mo_level 67 t_Mo_level_67 := dk_go 1 a_Mo_level_66 rfl
theorem a_Mo_level_68 : dk_at b_Mo_level 68 t_Mo_level_68 := dk_go 1 a_Mo_level_67 rfl
theorem a_Mo_level_69 : dk_at b_Mo_level 69 t_Mo_level_69 := dk_go 1 a_Mo_level_68 rfl
theorem a_Mo_level_72 : dk_at b_Mo_level 72 t_Mo_level_72 := dk_go 3 a_Mo_level_69 rfl
theorem a_Mo_level_73 : dk_at b_Mo_level 73 t_Mo_level_73 := dk_go 1 a_Mo_level_72 rfl
theorem a_Mo_level_74 : dk_at b_Mo_level 74 t_Mo_level_74 := dk_go 1 a_Mo_level_73 rfl
theorem a_Mo_level_77 : dk_at b_Mo_level 77 t_Mo_level_77 := dk_go 3 a_Mo_level_74 rfl
theorem a_Mo_level_78 : dk_at b_Mo_level 78 t_Mo_level_78 := dk_go 1 a_Mo_level_77 rfl
theorem a_Mo_level_79 : dk_at b_Mo_level 79 t_Mo_level_79 := dk_go 1 a_Mo_level_78 rfl
theorem a_Mo_level_82 : dk_at b_Mo_level 82 t_Mo_level_82 := dk_go 3 a_Mo_level_79 rfl
theorem a_Mo_level_85 : dk_at b_Mo_level 85 t_Mo_level_85 := dk_go 3 a_Mo_level_82 rfl
theorem a_Mo_level_86 : dk_at b_Mo_level 86 t_Mo_level_86 := dk_go 1 a_Mo_level_85 rfl
theorem d_Mo_level_0 : decode b_Mo_level 0 = .ok (.aload_n 0, 1) := dk_0 a_Mo_level_0 (dko_42 _)
theorem d_Mo_level_1 : decode b_Mo_level 1 = .ok (.iload_n 1, 1) := dk_0 a_Mo_level_1 (dko_27 _)
theorem d_Mo_level_2 : decode b_Mo_level 2 = .ok (.invokevirtual 323, 3) := dk_U2 a_Mo_level_2 (dko_182 _) rfl
theorem d_Mo_level_5 : decode b_Mo_level 5 = .ok (.ifCond .gt 12, 3) := dk_S2 a_Mo_level_5 (dko_157 _) (by decide +kernel)
theorem d_Mo_level_8 : decode b_Mo_level 8 = .ok (.aload_n 0, 1) := dk_0 a_Mo_level_8 (dko_42 _)
theorem d_Mo_level_9 : decode b_Mo_level 9 = .ok (.getfield 58, 3) := dk_U2 a_Mo_level_9 (dko_180 _) rfl
theorem d_Mo_level_12 : decode b_Mo_level 12 = .ok (.iload_n 1, 1) := dk_0 a_Mo_level_12 (dko_27 _)
theorem d_Mo_level_13 : decode b_Mo_level 13 = .ok (.iaload, 1) := dk_0 a_Mo_level_13 (dko_46 _)
theorem d_Mo_level_14 : decode b_Mo_level 14 = .ok (.ifCond .ne 5, 3) := dk_S2 a_Mo_level_14 (dko_154 _) (by decide +kernel)
theorem d_Mo_level_17 : decode b_Mo_level 17 = .ok (.iconst 0, 1) := dk_0 a_Mo_level_17 (dko_3 _)
theorem d_Mo_level_18 : decode b_Mo_level 18 = .ok (.ireturn, 1) := dk_0 a_Mo_level_18 (dko_172 _)
theorem d_Mo_level_19 : decode b_Mo_level 19 = .ok (.iconst (-1), 1) := dk_0 a_Mo_level_19 (dko_2 _)
theorem d_Mo_level_20 : decode b_Mo_level 20 = .ok (.istore_n 2, 1) := dk_0 a_Mo_level_20 (dko_61 _)
theorem d_Mo_level_21 : decode b_Mo_level 21 = .ok (.iconst 5, 1) := dk_0 a_Mo_level_21 (dko_8 _)
theorem d_Mo_level_22 : decode b_Mo_level 22 = .ok (.istore_n 3, 1) := dk_0 a_Mo_level_22 (dko_62 _)
theorem d_Mo_level_23 : decode b_Mo_level 23 = .ok (.iload_n 3, 1) := dk_0 a_Mo_level_23 (dko_29 _)
theorem d_Mo_level_24 : decode b_Mo_level 24 = .ok (.ifCond .le 61, 3) := dk_S2 a_Mo_level_24 (dko_158 _) (by decide +kernel)
theorem d_Mo_level_27 : decode b_Mo_level 27 = .ok (.aload_n 0, 1) := dk_0 a_Mo_level_27 (dko_42 _)
theorem d_Mo_level_28 : decode b_Mo_level 28 = .ok (.getfield 61, 3) := dk_U2 a_Mo_level_28 (dko_180 _) rfl
theorem d_Mo_level_31 : decode b_Mo_level 31 = .ok (.bipush 6, 2) := dk_S1 a_Mo_level_31 (dko_16 _) (by decide +kernel)
theorem d_Mo_level_33 : decode b_Mo_level 33 = .ok (.iload_n 1, 1) := dk_0 a_Mo_level_33 (dko_27 _)
theorem d_Mo_level_34 : decode b_Mo_level 34 = .ok (.imul, 1) := dk_0 a_Mo_level_34 (dko_104 _)
theorem d_Mo_level_35 : decode b_Mo_level 35 = .ok (.iload_n 3, 1) := dk_0 a_Mo_level_35 (dko_29 _)
theorem d_Mo_level_36 : decode b_Mo_level 36 = .ok (.iadd, 1) := dk_0 a_Mo_level_36 (dko_96 _)
theorem d_Mo_level_37 : decode b_Mo_level 37 = .ok (.iaload, 1) := dk_0 a_Mo_level_37 (dko_46 _)
theorem d_Mo_level_38 : decode b_Mo_level 38 = .ok (.iload_n 2, 1) := dk_0 a_Mo_level_38 (dko_28 _)
theorem d_Mo_level_39 : decode b_Mo_level 39 = .ok (.if_icmp .le 17, 3) := dk_S2 a_Mo_level_39 (dko_164 _) (by decide +kernel)
theorem d_Mo_level_42 : decode b_Mo_level 42 = .ok (.aload_n 0, 1) := dk_0 a_Mo_level_42 (dko_42 _)
theorem d_Mo_level_43 : decode b_Mo_level 43 = .ok (.getfield 61, 3) := dk_U2 a_Mo_level_43 (dko_180 _) rfl
theorem d_Mo_level_46 : decode b_Mo_level 46 = .ok (.bipush 6, 2) := dk_S1 a_Mo_level_46 (dko_16 _) (by decide +kernel)
theorem d_Mo_level_48 : decode b_Mo_level 48 = .ok (.iload_n 1, 1) := dk_0 a_Mo_level_48 (dko_27 _)
theorem d_Mo_level_49 : decode b_Mo_level 49 = .ok (.imul, 1) := dk_0 a_Mo_level_49 (dko_104 _)
theorem d_Mo_level_50 : decode b_Mo_level 50 = .ok (.iload_n 3, 1) := dk_0 a_Mo_level_50 (dko_29 _)
theorem d_Mo_level_51 : decode b_Mo_level 51 = .ok (.iadd, 1) := dk_0 a_Mo_level_51 (dko_96 _)
theorem d_Mo_level_52 : decode b_Mo_level 52 = .ok (.iaload, 1) := dk_0 a_Mo_level_52 (dko_46 _)
theorem d_Mo_level_53 : decode b_Mo_level 53 = .ok (.goto 4, 3) := dk_S2 a_Mo_level_53 (dko_167 _) (by decide +kernel)
theorem d_Mo_level_56 : decode b_Mo_level 56 = .ok (.iload_n 2, 1) := dk_0 a_Mo_level_56 (dko_28 _)
theorem d_Mo_level_57 : decode b_Mo_level 57 = .ok (.istore_n 2, 1) := dk_0 a_Mo_level_57 (dko_61 _)
theorem d_Mo_level_58 : decode b_Mo_level 58 = .ok (.iload_n 2, 1) := dk_0 a_Mo_level_58 (dko_28 _)
theorem d_Mo_level_59 : decode b_Mo_level 59 = .ok (.ifCond .lt 20, 3) := dk_S2 a_Mo_level_59 (dko_155 _) (by decide +kernel)
theorem d_Mo_level_62 : decode b_Mo_level 62 = .ok (.aload_n 0, 1) := dk_0 a_Mo_level_62 (dko_42 _)
theorem d_Mo_level_63 : decode b_Mo_level 63 = .ok (.getfield 326, 3) := dk_U2 a_Mo_level_63 (dko_180 _) rfl
theorem d_Mo_level_66 : decode b_Mo_level 66 = .ok (.iload_n 2, 1) := dk_0 a_Mo_level_66 (dko_28 _)
theorem d_Mo_level_67 : decode b_Mo_level 67 = .ok (.isub, 1) := dk_0 a_Mo_level_67 (dko_100 _)
theorem d_Mo_level_68 : decode b_Mo_level 68 = .ok (.aload_n 0, 1) := dk_0 a_Mo_level_68 (dko_42 _)
theorem d_Mo_level_69 : decode b_Mo_level 69 = .ok (.getfield 71, 3) := dk_U2 a_Mo_level_69 (dko_180 _) rfl
theorem d_Mo_level_72 : decode b_Mo_level 72 = .ok (.iload_n 3, 1) := dk_0 a_Mo_level_72 (dko_29 _)
theorem d_Mo_level_73 : decode b_Mo_level 73 = .ok (.iaload, 1) := dk_0 a_Mo_level_73 (dko_46 _)
theorem d_Mo_level_74 : decode b_Mo_level 74 = .ok (.if_icmp .ge 5, 3) := dk_S2 a_Mo_level_74 (dko_162 _) (by decide +kernel)
theorem d_Mo_level_77 : decode b_Mo_level 77 = .ok (.iload_n 3, 1) := dk_0 a_Mo_level_77 (dko_29 _)
theorem d_Mo_level_78 : decode b_Mo_level 78 = .ok (.ireturn, 1) := dk_0 a_Mo_level_78 (dko_172 _)
theorem d_Mo_level_79 : decode b_Mo_level 79 = .ok (.iinc 3 (-1), 3) := dk_US a_Mo_level_79 (dko_132 _) (by decide +kernel)
theorem d_Mo_level_82 : decode b_Mo_level 82 = .ok (.goto (-59), 3) := dk_S2 a_Mo_level_82 (dko_167 _) (by decide +kernel)
theorem d_Mo_level_85 : decode b_Mo_level 85 = .ok (.iconst 0, 1) := dk_0 a_Mo_level_85 (dko_3 _)
theorem d_Mo_level_86 : decode b_Mo_level 86 = .ok (.ireturn, 1) := dk_0 a_Mo_level_86 (dko_172 _)
set_option maxHeartbeats 4000000 in
set_option maxRecDepth 100000 in
theorem ok_Mo_level (pc : Nat) : OpS mt mi_Mo_level pc (cs_Mo_level pc) := (os_n (os_n (os_n (os_n (os_n (os_l (so_aload_n d_Mo_level_0 rfl)) (os_n (os_l (so_iload_n d_Mo_level_1 rfl)) (os_l (so_callV (iv := mi_Mo_liquidIn) rfl rfl rfl mw_2373 mw_2375 sl_146 mw_18 mw_2376 ⟨by decide +kernel, by decide +kernel, by decide +kernel⟩ (by decide) d_Mo_level_2)))) (os_n (os_l (so_ifgt d_Mo_level_5 (by decide))) (os_n (os_l (so_aload_n d_Mo_level_8 rfl)) (os_l (so_get (C := R_Mo) (T := F_Mo) (N := 87) (j := 16) in_Mo rfl (by decide) mw_1810 d_Mo_level_9))))) (os_n (os_n (os_l (so_iload_n d_Mo_level_12 rfl)) (os_n (os_l (so_iaload d_Mo_level_13)) (os_l (so_ifne d_Mo_level_14 (by decide))))) (os_n (os_n (os_l (so_iconst d_Mo_level_17 (by decide))) (os_l (so_ireturn rfl d_Mo_level_18))) (os_n (os_l (so_iconst d_Mo_level_19 (by decide))) (os_l (so_istore_n d_Mo_level_20 rfl (by decide))))))) (os_n (os_n (os_n (os_l (so_iconst d_Mo_level_21 (by decide))) (os_n (os_l (so_istore_n d_Mo_level_22 rfl (by decide))) (os_l (so_iload_n d_Mo_level_23 rfl)))) (os_n (os_n (os_l (so_ifle d_Mo_level_24 (by decide))) (os_l (so_aload_n d_Mo_level_27 rfl))) (os_n (os_l (so_get (C := R_Mo) (T := F_Mo) (N := 87) (j := 17) in_Mo rfl (by decide) mw_1811 d_Mo_level_28)) (os_l (so_bipush d_Mo_level_31 (by decide)))))) (os_n (os_n (os_l (so_iload_n d_Mo_level_33 rfl)) (os_n (os_l (so_imul d_Mo_level_34)) (os_l (so_iload_n d_Mo_level_35 rfl)))) (os_n (os_n (os_l (so_iadd d_Mo_level_36)) (os_l (so_iaload d_Mo_level_37))) (os_n (os_l (so_iload_n d_Mo_level_38 rfl)) (os_l (so_icle d_Mo_level_39 (by decide)))))))) (os_n (os_n (os_n (os_n (os_l (so_aload_n d_Mo_level_42 rfl)) (os_n (os_l (so_get (C := R_Mo) (T := F_Mo) (N := 87) (j := 17) in_Mo rfl (by decide) mw_1811 d_Mo_level_43)) (os_l (so_bipush d_Mo_level_46 (by decide))))) (os_n (os_n (os_l (so_iload_n d_Mo_level_48 rfl)) (os_l (so_imul d_Mo_level_49))) (os_n (os_l (so_iload_n d_Mo_level_50 rfl)) (os_l (so_iadd d_Mo_level_51))))) (os_n (os_n (os_l (so_iaload d_Mo_level_52)) (os_n (os_l (so_goto d_Mo_level_53 (by decide))) (os_l (so_iload_n d_Mo_level_56 rfl)))) (os_n (os_n (os_l (so_istore_n d_Mo_level_57 rfl (by decide))) (os_l (so_iload_n d_Mo_level_58 rfl))) (os_n (os_l (so_iflt d_Mo_level_59 (by decide))) (os_l (so_aload_n d_Mo_level_62 rfl)))))) (os_n (os_n (os_n (os_l (so_get (C := R_Mo) (T := F_Mo) (N := 87) (j := 78) in_Mo rfl (by decide) mw_1872 d_Mo_level_63)) (os_n (os_l (so_iload_n d_Mo_level_66 rfl)) (os_l (so_isub d_Mo_level_67)))) (os_n (os_n (os_l (so_aload_n d_Mo_level_68 rfl)) (os_l (so_get (C := R_Mo) (T := F_Mo) (N := 87) (j := 20) in_Mo rfl (by decide) mw_1814 d_Mo_level_69))) (os_n (os_l (so_iload_n d_Mo_level_72 rfl)) (os_l (so_iaload d_Mo_level_73))))) (os_n (os_n (os_l (so_icge d_Mo_level_74 (by decide))) (os_n (os_l (so_iload_n d_Mo_level_77 rfl)) (os_l (so_ireturn rfl d_Mo_level_78)))) (os_n (os_n (os_l (so_iinc d_Mo_level_79 (by decide) (by decide))) (os_l (so_goto d_Mo_level_82 (by decide)))) (os_n (os_l (so_iconst d_Mo_level_85 (by decide))) (os_l (so_ireturn rfl d_Mo_level_86))))))))
abbrev t_Mo_mayCome_91 : List UInt8 := 172 :: []
abbrev t_Mo_mayCome_90 : List UInt8 := 3 :: t_Mo_mayCome_91
abbrev t_Mo_mayCome_87 : List UInt8 := 167 :: 0 :: 4 :: t_Mo_mayCome_90
abbrev t_Mo_mayCome_86 : List UInt8 := 4 :: t_Mo_mayCome_87
abbrev t_Mo_mayCome_83 : List UInt8 := 161 :: 0 :: 7 :: t_Mo_mayCome_86
abbrev t_Mo_mayCome_81 : List UInt8 := 21 :: 4 :: t_Mo_mayCome_83
abbrev t_Mo_mayCome_78 : List UInt8 := 182 :: 1 :: 73 :: t_Mo_mayCome_81
abbrev t_Mo_mayCome_77 : List UInt8 := 28 :: t_Mo_mayCome_78
abbrev t_Mo_mayCome_76 : List UInt8 := 42 :: t_Mo_mayCome_77
abbrev t_Mo_mayCome_73 : List UInt8 := 153 :: 0 :: 13 :: t_Mo_mayCome_76
abbrev t_Mo_mayCome_71 : List UInt8 := 21 :: 4 :: t_Mo_mayCome_73
abbrev t_Mo_mayCome_69 : List UInt8 := 54 :: 4 :: t_Mo_mayCome_71
abbrev t_Mo_mayCome_68 : List UInt8 := 46 :: t_Mo_mayCome_69
abbrev t_Mo_mayCome_67 : List UInt8 := 96 :: t_Mo_mayCome_68
abbrev t_Mo_mayCome_66 : List UInt8 := 27 :: t_Mo_mayCome_67
abbrev t_Mo_mayCome_65 : List UInt8 := 104 :: t_Mo_mayCome_66
abbrev t_Mo_mayCome_64 : List UInt8 := 46 :: t_Mo_mayCome_65
abbrev t_Mo_mayCome_63 : List UInt8 := 28 :: t_Mo_mayCome_64
abbrev t_Mo_mayCome_60 : List UInt8 := 180 :: 0 :: 58 :: t_Mo_mayCome_63
abbrev t_Mo_mayCome_59 : List UInt8 := 42 :: t_Mo_mayCome_60
abbrev t_Mo_mayCome_57 : List UInt8 := 16 :: 16 :: t_Mo_mayCome_59
abbrev t_Mo_mayCome_54 : List UInt8 := 180 :: 0 :: 68 :: t_Mo_mayCome_57
abbrev t_Mo_mayCome_53 : List UInt8 := 42 :: t_Mo_mayCome_54
abbrev t_Mo_mayCome_50 : List UInt8 := 167 :: 0 :: 19 :: t_Mo_mayCome_53
abbrev t_Mo_mayCome_49 : List UInt8 := 8 :: t_Mo_mayCome_50
abbrev t_Mo_mayCome_46 : List UInt8 := 160 :: 0 :: 7 :: t_Mo_mayCome_49
abbrev t_Mo_mayCome_44 : List UInt8 := 16 :: 15 :: t_Mo_mayCome_46
abbrev t_Mo_mayCome_43 : List UInt8 := 27 :: t_Mo_mayCome_44
abbrev t_Mo_mayCome_40 : List UInt8 := 159 :: 0 :: 9 :: t_Mo_mayCome_43
abbrev t_Mo_mayCome_38 : List UInt8 := 16 :: 15 :: t_Mo_mayCome_40
abbrev t_Mo_mayCome_37 : List UInt8 := 46 :: t_Mo_mayCome_38
abbrev t_Mo_mayCome_36 : List UInt8 := 28 :: t_Mo_mayCome_37
abbrev t_Mo_mayCome_33 : List UInt8 := 180 :: 0 :: 58 :: t_Mo_mayCome_36
abbrev t_Mo_mayCome_32 : List UInt8 := 42 :: t_Mo_mayCome_33
abbrev t_Mo_mayCome_31 : List UInt8 := 172 :: t_Mo_mayCome_32
abbrev t_Mo_mayCome_30 : List UInt8 := 4 :: t_Mo_mayCome_31
abbrev t_Mo_mayCome_27 : List UInt8 := 154 :: 0 :: 5 :: t_Mo_mayCome_30
abbrev t_Mo_mayCome_26 : List UInt8 := 46 :: t_Mo_mayCome_27
abbrev t_Mo_mayCome_25 : List UInt8 := 28 :: t_Mo_mayCome_26
abbrev t_Mo_mayCome_22 : List UInt8 := 180 :: 0 :: 58 :: t_Mo_mayCome_25
abbrev t_Mo_mayCome_21 : List UInt8 := 42 :: t_Mo_mayCome_22
abbrev t_Mo_mayCome_20 : List UInt8 := 172 :: t_Mo_mayCome_21
abbrev t_Mo_mayCome_19 : List UInt8 := 3 :: t_Mo_mayCome_20
abbrev t_Mo_mayCome_16 : List UInt8 := 167 :: 0 :: 4 :: t_Mo_mayCome_19
abbrev t_Mo_mayCome_15 : List UInt8 := 4 :: t_Mo_mayCome_16
abbrev t_Mo_mayCome_12 : List UInt8 := 160 :: 0 :: 7 :: t_Mo_mayCome_15
abbrev t_Mo_mayCome_11 : List UInt8 := 27 :: t_Mo_mayCome_12
abbrev t_Mo_mayCome_10 : List UInt8 := 29 :: t_Mo_mayCome_11
abbrev t_Mo_mayCome_7 : List UInt8 := 158 :: 0 :: 14 :: t_Mo_mayCome_10
abbrev t_Mo_mayCome_6 : List UInt8 := 29 :: t_Mo_mayCome_7
abbrev t_Mo_mayCome_5 : List UInt8 := 62 :: t_Mo_mayCome_6
abbrev t_Mo_mayCome_2 : List UInt8 := 182 :: 1 :: 67 :: t_Mo_mayCome_5
abbrev t_Mo_mayCome_1 : List UInt8 := 28 :: t_Mo_mayCome_2
abbrev t_Mo_mayCome_0 : List UInt8 := 42 :: t_Mo_mayCome_1
theorem a_Mo_mayCome_0 : dk_at b_Mo_mayCome 0 t_Mo_mayCome_0 := dk_start (by decide +kernel)
theorem a_Mo_mayCome_1 : dk_at b_Mo_mayCome 1 t_Mo_mayCome_1 := dk_go 1 a_Mo_mayCome_0 rfl
theorem a_Mo_mayCome_2 : dk_at b_Mo_mayCome 2 t_Mo_mayCome_2 := dk_go 1 a_Mo_mayCome_1 rfl
theorem a_Mo_mayCome_5 : dk_at b_Mo_mayCome 5 t_Mo_mayCome_5 := dk_go 3 a_Mo_mayCome_2 rfl
theorem a_Mo_mayCome_6 : dk_at b_Mo_mayCome 6 t_Mo_mayCome_6 := dk_go 1 a_Mo_mayCome_5 rfl
theorem a_Mo_mayCome_7 : dk_at b_Mo_mayCome 7 t_Mo_mayCome_7 := dk_go 1 a_Mo_mayCome_6 rfl
theorem a_Mo_mayCome_10 : dk_at b_Mo_mayCome 10 t_Mo_mayCome_10 := dk_go 3 a_Mo_mayCome_7 rfl
theorem a_Mo_mayCome_11 : dk_at b_Mo_mayCome 11 t_Mo_mayCome_11 := dk_go 1 a_Mo_mayCome_10 rfl
theorem a_Mo_mayCome_12 : dk_at b_Mo_mayCome 12 t_Mo_mayCome_12 := dk_go 1 a_Mo_mayCome_11 rfl
theorem a_Mo_mayCome_15 : dk_at b_Mo_mayCome 15 t_Mo_mayCome_15 := dk_go 3 a_Mo_mayCome_12 rfl
theorem a_Mo_mayCome_16 : dk_at b_Mo_mayCome 16 t_Mo_mayCome_16 := dk_go 1 a_Mo_mayCome_15 rfl
theorem a_Mo_mayCome_19 : dk_at b_Mo_mayCome 19 t_Mo_mayCome_19 := dk_go 3 a_Mo_mayCome_16 rfl
theorem a_Mo_mayCome_20 : dk_at b_Mo_mayCome 20 t_Mo_mayCome_20 := dk_go 1 a_Mo_mayCome_19 rfl
theorem a_Mo_mayCome_21 : dk_at b_Mo_mayCome 21 t_Mo_mayCome_21 := dk_go 1 a_Mo_mayCome_20 rfl
theorem a_Mo_mayCome_22 : dk_at b_Mo_mayCome 22 t_Mo_mayCome_22 := dk_go 1 a_Mo_mayCome_21 rfl
theorem a_Mo_mayCome_25 : dk_at b_Mo_mayCome 25 t_Mo_mayCome_25 := dk_go 3 a_Mo_mayCome_22 rfl
theorem a_Mo_mayCome_26 : dk_at b_Mo_mayCome 26 t_Mo_mayCome_26 := dk_go 1 a_Mo_mayCome_25 rfl
theorem a_Mo_mayCome_27 : dk_at b_Mo_mayCome 27 t_Mo_mayCome_27 := dk_go 1 a_Mo_mayCome_26 rfl
theorem a_Mo_mayCome_30 : dk_at b_Mo_mayCome 30 t_Mo_mayCome_30 := dk_go 3 a_Mo_mayCome_27 rfl
theorem a_Mo_mayCome_31 : dk_at b_Mo_mayCome 31 t_Mo_mayCome_31 := dk_go 1 a_Mo_mayCome_30 rfl
theorem a_Mo_mayCome_32 : dk_at b_Mo_mayCome 32 t_Mo_mayCome_32 := dk_go 1 a_Mo_mayCome_31 rfl
theorem a_Mo_mayCome_33 : dk_at b_Mo_mayCome 33 t_Mo_mayCome_33 := dk_go 1 a_Mo_mayCome_32 rfl
theorem a_Mo_mayCome_36 : dk_at b_Mo_mayCome 36 t_Mo_mayCome_36 := dk_go 3 a_Mo_mayCome_33 rfl
theorem a_Mo_mayCome_37 : dk_at b_Mo_mayCome 37 t_Mo_mayCome_37 := dk_go 1 a_Mo_mayCome_36 rfl
theorem a_Mo_mayCome_38 : dk_at b_Mo_mayCome 38 t_Mo_mayCome_38 := dk_go 1 a_Mo_mayCome_37 rfl
theorem a_Mo_mayCome_40 : dk_at b_Mo_mayCome 40 t_Mo_mayCome_40 := dk_go 2 a_Mo_mayCome_38 rfl
theorem a_Mo_mayCome_43 : dk_at b_Mo_mayCome 43 t_Mo_mayCome_43 := dk_go 3 a_Mo_mayCome_40 rfl
theorem a_Mo_mayCome_44 : dk_at b_Mo_mayCome 44 t_Mo_mayCome_44 := dk_go 1 a_Mo_mayCome_43 rfl
theorem a_Mo_mayCome_46 : dk_at b_Mo_mayCome 46 t_Mo_mayCome_46 := dk_go 2 a_Mo_mayCome_44 rfl
theorem a_Mo_mayCome_49 : dk_at b_Mo_mayCome 49 t_Mo_mayCome_49 := dk_go 3 a_Mo_mayCome_46 rfl
theorem a_Mo_mayCome_50 : dk_at b_Mo_mayCome 50 t_Mo_mayCome_50 := dk_go 1 a_Mo_mayCome_49 rfl
theorem a_Mo_mayCome_53 : dk_at b_Mo_mayCome 53 t_Mo_mayCome_53 := dk_go 3 a_Mo_mayCome_50 rfl
theorem a_Mo_mayCome_54 : dk_at b_Mo_mayCome 54 t_Mo_mayCome_54 := dk_go 1 a_Mo_mayCome_53 rfl
theorem a_Mo_mayCome_57 : dk_at b_Mo_mayCome 57 t_Mo_mayCome_57 := dk_go 3 a_Mo_mayCome_54 rfl
theorem a_Mo_mayCome_59 : dk_at b_Mo_mayCome 59 t_Mo_mayCome_59 := dk_go 2 a_Mo_mayCome_57 rfl
theorem a_Mo_mayCome_60 : dk_at b_Mo_mayCome 60 t_Mo_mayCome_60 := dk_go 1 a_Mo_mayCome_59 rfl
theorem a_Mo_mayCome_63 : dk_at b_Mo_mayCome 63 t_Mo_mayCome_63 := dk_go 3 a_Mo_mayCome_60 rfl
theorem a_Mo_mayCome_64 : dk_at b_Mo_mayCome 64 t_Mo_mayCome_64 := dk_go 1 a_Mo_mayCome_63 rfl
theorem a_Mo_mayCome_65 : dk_at b_Mo_mayCome 65 t_Mo_mayCome_65 := dk_go 1 a_Mo_mayCome_64 rfl
theorem a_Mo_mayCome_66 : dk_at b_Mo_mayCome 66 t_Mo_mayCome_66 := dk_go 1 a_Mo_mayCome_65 rfl
theorem a_Mo_mayCome_67 : dk_at b_Mo_mayCome 67 t_Mo_mayCome_67 := dk_go 1 a_Mo_mayCome_66 rfl
theorem a_Mo_mayCome_68 : dk_at b_Mo_mayCome 68 t_Mo_mayCome_68 := dk_go 1 a_Mo_mayCome_67 rfl
theorem a_Mo_mayCome_69 : dk_at b_Mo_mayCome 69 t_Mo_mayCome_69 := dk_go 1 a_Mo_mayCome_68 rfl
theorem a_Mo_mayCome_71 : dk_at b_Mo_mayCome 71 t_Mo_mayCome_71 := dk_go 2 a_Mo_mayCome_69 rfl
theorem a_Mo_mayCome_73 : dk_at b_Mo_mayCome 73 t_Mo_mayCome_73 := dk_go 2 a_Mo_mayCome_71 rfl
theorem a_Mo_mayCome_76 : dk_at b_Mo_mayCome 76 t_Mo_mayCome_76 := dk_go 3 a_Mo_mayCome_73 rfl
theorem a_Mo_mayCome_77 : dk_at b_Mo_mayCome 77 t_Mo_mayCome_77 := dk_go 1 a_Mo_mayCome_76 rfl
theorem a_Mo_mayCome_78 : dk_at b_Mo_mayCome 78 t_Mo_mayCome_78 := dk_go 1 a_Mo_mayCome_77 rfl
theorem a_Mo_mayCome_81 : dk_at b_Mo_mayCome 81 t_Mo_mayCome_81 := dk_go 3 a_Mo_mayCome_78 rfl
theorem a_Mo_mayCome_83 : dk_at b_Mo_mayCome 83 t_Mo_mayCome_83 := dk_go 2 a_Mo_mayCome_81 rfl
theorem a_Mo_mayCome_86 : dk_at b_Mo_mayCome 86 t_Mo_mayCome_86 := dk_go 3 a_Mo_mayCome_83 rfl
theorem a_Mo_mayCome_87 : dk_at b_Mo_mayCome 87 t_Mo_mayCome_87 := dk_go 1 a_Mo_mayCome_86 rfl
theorem a_Mo_mayCome_90 : dk_at b_Mo_mayCome 90 t_Mo_mayCome_90 := dk_go 3 a_Mo_mayCome_87 rfl
theorem a_Mo_mayCome_91 : dk_at b_Mo_mayCome 91 t_Mo_mayCome_91 := dk_go 1 a_Mo_mayCome_90 rfl
theorem d_Mo_mayCome_0 : decode b_Mo_mayCome 0 = .ok (.aload_n 0, 1) := dk_0 a_Mo_mayCome_0 (dko_42 _)
theorem d_Mo_mayCome_1 : decode b_Mo_mayCome 1 = .ok (.iload_n 2, 1) := dk_0 a_Mo_mayCome_1 (dko_28 _)
theorem d_Mo_mayCome_2 : decode b_Mo_mayCome 2 = .ok (.invokevirtual 323, 3) := dk_U2 a_Mo_mayCome_2 (dko_182 _) rfl
theorem d_Mo_mayCome_5 : decode b_Mo_mayCome 5 = .ok (.istore_n 3, 1) := dk_0 a_Mo_mayCome_5 (dko_62 _)
theorem d_Mo_mayCome_6 : decode b_Mo_mayCome 6 = .ok (.iload_n 3, 1) := dk_0 a_Mo_mayCome_6 (dko_29 _)
theorem d_Mo_mayCome_7 : decode b_Mo_mayCome 7 = .ok (.ifCond .le 14, 3) := dk_S2 a_Mo_mayCome_7 (dko_158 _) (by decide +kernel)
theorem d_Mo_mayCome_10 : decode b_Mo_mayCome 10 = .ok (.iload_n 3, 1) := dk_0 a_Mo_mayCome_10 (dko_29 _)
theorem d_Mo_mayCome_11 : decode b_Mo_mayCome 11 = .ok (.iload_n 1, 1) := dk_0 a_Mo_mayCome_11 (dko_27 _)
theorem d_Mo_mayCome_12 : decode b_Mo_mayCome 12 = .ok (.if_icmp .ne 7, 3) := dk_S2 a_Mo_mayCome_12 (dko_160 _) (by decide +kernel)
theorem d_Mo_mayCome_15 : decode b_Mo_mayCome 15 = .ok (.iconst 1, 1) := dk_0 a_Mo_mayCome_15 (dko_4 _)
theorem d_Mo_mayCome_16 : decode b_Mo_mayCome 16 = .ok (.goto 4, 3) := dk_S2 a_Mo_mayCome_16 (dko_167 _) (by decide +kernel)
theorem d_Mo_mayCome_19 : decode b_Mo_mayCome 19 = .ok (.iconst 0, 1) := dk_0 a_Mo_mayCome_19 (dko_3 _)
theorem d_Mo_mayCome_20 : decode b_Mo_mayCome 20 = .ok (.ireturn, 1) := dk_0 a_Mo_mayCome_20 (dko_172 _)
theorem d_Mo_mayCome_21 : decode b_Mo_mayCome 21 = .ok (.aload_n 0, 1) := dk_0 a_Mo_mayCome_21 (dko_42 _)
theorem d_Mo_mayCome_22 : decode b_Mo_mayCome 22 = .ok (.getfield 58, 3) := dk_U2 a_Mo_mayCome_22 (dko_180 _) rfl
theorem d_Mo_mayCome_25 : decode b_Mo_mayCome 25 = .ok (.iload_n 2, 1) := dk_0 a_Mo_mayCome_25 (dko_28 _)
theorem d_Mo_mayCome_26 : decode b_Mo_mayCome 26 = .ok (.iaload, 1) := dk_0 a_Mo_mayCome_26 (dko_46 _)
theorem d_Mo_mayCome_27 : decode b_Mo_mayCome 27 = .ok (.ifCond .ne 5, 3) := dk_S2 a_Mo_mayCome_27 (dko_154 _) (by decide +kernel)
theorem d_Mo_mayCome_30 : decode b_Mo_mayCome 30 = .ok (.iconst 1, 1) := dk_0 a_Mo_mayCome_30 (dko_4 _)
theorem d_Mo_mayCome_31 : decode b_Mo_mayCome 31 = .ok (.ireturn, 1) := dk_0 a_Mo_mayCome_31 (dko_172 _)
theorem d_Mo_mayCome_32 : decode b_Mo_mayCome 32 = .ok (.aload_n 0, 1) := dk_0 a_Mo_mayCome_32 (dko_42 _)
theorem d_Mo_mayCome_33 : decode b_Mo_mayCome 33 = .ok (.getfield 58, 3) := dk_U2 a_Mo_mayCome_33 (dko_180 _) rfl
theorem d_Mo_mayCome_36 : decode b_Mo_mayCome 36 = .ok (.iload_n 2, 1) := dk_0 a_Mo_mayCome_36 (dko_28 _)
theorem d_Mo_mayCome_37 : decode b_Mo_mayCome 37 = .ok (.iaload, 1) := dk_0 a_Mo_mayCome_37 (dko_46 _)
theorem d_Mo_mayCome_38 : decode b_Mo_mayCome 38 = .ok (.bipush 15, 2) := dk_S1 a_Mo_mayCome_38 (dko_16 _) (by decide +kernel)
theorem d_Mo_mayCome_40 : decode b_Mo_mayCome 40 = .ok (.if_icmp .eq 9, 3) := dk_S2 a_Mo_mayCome_40 (dko_159 _) (by decide +kernel)
theorem d_Mo_mayCome_43 : decode b_Mo_mayCome 43 = .ok (.iload_n 1, 1) := dk_0 a_Mo_mayCome_43 (dko_27 _)
theorem d_Mo_mayCome_44 : decode b_Mo_mayCome 44 = .ok (.bipush 15, 2) := dk_S1 a_Mo_mayCome_44 (dko_16 _) (by decide +kernel)
theorem d_Mo_mayCome_46 : decode b_Mo_mayCome 46 = .ok (.if_icmp .ne 7, 3) := dk_S2 a_Mo_mayCome_46 (dko_160 _) (by decide +kernel)
theorem d_Mo_mayCome_49 : decode b_Mo_mayCome 49 = .ok (.iconst 5, 1) := dk_0 a_Mo_mayCome_49 (dko_8 _)
theorem d_Mo_mayCome_50 : decode b_Mo_mayCome 50 = .ok (.goto 19, 3) := dk_S2 a_Mo_mayCome_50 (dko_167 _) (by decide +kernel)
theorem d_Mo_mayCome_53 : decode b_Mo_mayCome 53 = .ok (.aload_n 0, 1) := dk_0 a_Mo_mayCome_53 (dko_42 _)
theorem d_Mo_mayCome_54 : decode b_Mo_mayCome 54 = .ok (.getfield 68, 3) := dk_U2 a_Mo_mayCome_54 (dko_180 _) rfl
theorem d_Mo_mayCome_57 : decode b_Mo_mayCome 57 = .ok (.bipush 16, 2) := dk_S1 a_Mo_mayCome_57 (dko_16 _) (by decide +kernel)
theorem d_Mo_mayCome_59 : decode b_Mo_mayCome 59 = .ok (.aload_n 0, 1) := dk_0 a_Mo_mayCome_59 (dko_42 _)
theorem d_Mo_mayCome_60 : decode b_Mo_mayCome 60 = .ok (.getfield 58, 3) := dk_U2 a_Mo_mayCome_60 (dko_180 _) rfl
theorem d_Mo_mayCome_63 : decode b_Mo_mayCome 63 = .ok (.iload_n 2, 1) := dk_0 a_Mo_mayCome_63 (dko_28 _)
theorem d_Mo_mayCome_64 : decode b_Mo_mayCome 64 = .ok (.iaload, 1) := dk_0 a_Mo_mayCome_64 (dko_46 _)
theorem d_Mo_mayCome_65 : decode b_Mo_mayCome 65 = .ok (.imul, 1) := dk_0 a_Mo_mayCome_65 (dko_104 _)
theorem d_Mo_mayCome_66 : decode b_Mo_mayCome 66 = .ok (.iload_n 1, 1) := dk_0 a_Mo_mayCome_66 (dko_27 _)
theorem d_Mo_mayCome_67 : decode b_Mo_mayCome 67 = .ok (.iadd, 1) := dk_0 a_Mo_mayCome_67 (dko_96 _)
theorem d_Mo_mayCome_68 : decode b_Mo_mayCome 68 = .ok (.iaload, 1) := dk_0 a_Mo_mayCome_68 (dko_46 _)
theorem d_Mo_mayCome_69 : decode b_Mo_mayCome 69 = .ok (.istore 4, 2) := dk_U1 a_Mo_mayCome_69 (dko_54 _) rfl
theorem d_Mo_mayCome_71 : decode b_Mo_mayCome 71 = .ok (.iload 4, 2) := dk_U1 a_Mo_mayCome_71 (dko_21 _) rfl
theorem d_Mo_mayCome_73 : decode b_Mo_mayCome 73 = .ok (.ifCond .eq 13, 3) := dk_S2 a_Mo_mayCome_73 (dko_153 _) (by decide +kernel)
theorem d_Mo_mayCome_76 : decode b_Mo_mayCome 76 = .ok (.aload_n 0, 1) := dk_0 a_Mo_mayCome_76 (dko_42 _)
theorem d_Mo_mayCome_77 : decode b_Mo_mayCome 77 = .ok (.iload_n 2, 1) := dk_0 a_Mo_mayCome_77 (dko_28 _)
theorem d_Mo_mayCome_78 : decode b_Mo_mayCome 78 = .ok (.invokevirtual 329, 3) := dk_U2 a_Mo_mayCome_78 (dko_182 _) rfl
theorem d_Mo_mayCome_81 : decode b_Mo_mayCome 81 = .ok (.iload 4, 2) := dk_U1 a_Mo_mayCome_81 (dko_21 _) rfl
theorem d_Mo_mayCome_83 : decode b_Mo_mayCome 83 = .ok (.if_icmp .lt 7, 3) := dk_S2 a_Mo_mayCome_83 (dko_161 _) (by decide +kernel)
theorem d_Mo_mayCome_86 : decode b_Mo_mayCome 86 = .ok (.iconst 1, 1) := dk_0 a_Mo_mayCome_86 (dko_4 _)
theorem d_Mo_mayCome_87 : decode b_Mo_mayCome 87 = .ok (.goto 4, 3) := dk_S2 a_Mo_mayCome_87 (dko_167 _) (by decide +kernel)
theorem d_Mo_mayCome_90 : decode b_Mo_mayCome 90 = .ok (.iconst 0, 1) := dk_0 a_Mo_mayCome_90 (dko_3 _)
theorem d_Mo_mayCome_91 : decode b_Mo_mayCome 91 = .ok (.ireturn, 1) := dk_0 a_Mo_mayCome_91 (dko_172 _)
set_option maxHeartbeats 4000000 in
set_option maxRecDepth 100000 in
theorem ok_Mo_mayCome (pc : Nat) : OpS mt mi_Mo_mayCome pc (cs_Mo_mayCome pc) := (os_n (os_n (os_n (os_n (os_n (os_l (so_aload_n d_Mo_mayCome_0 rfl)) (os_n (os_l (so_iload_n d_Mo_mayCome_1 rfl)) (os_l (so_callV (iv := mi_Mo_liquidIn) rfl rfl rfl mw_2373 mw_2375 sl_146 mw_18 mw_2376 ⟨by decide +kernel, by decide +kernel, by decide +kernel⟩ (by decide) d_Mo_mayCome_2)))) (os_n (os_l (so_istore_n d_Mo_mayCome_5 rfl (by decide))) (os_n (os_l (so_iload_n d_Mo_mayCome_6 rfl)) (os_l (so_ifle d_Mo_mayCome_7 (by decide)))))) (os_n (os_n (os_l (so_iload_n d_Mo_mayCome_10 rfl)) (os_n (os_l (so_iload_n d_Mo_mayCome_11 rfl)) (os_l (so_icne d_Mo_mayCome_12 (by decide))))) (os_n (os_n (os_l (so_iconst d_Mo_mayCome_15 (by decide))) (os_l (so_goto d_Mo_mayCome_16 (by decide)))) (os_n (os_l (so_iconst d_Mo_mayCome_19 (by decide))) (os_l (so_zreturn rfl d_Mo_mayCome_20)))))) (os_n (os_n (os_n (os_l (so_aload_n d_Mo_mayCome_21 rfl)) (os_n (os_l (so_get (C := R_Mo) (T := F_Mo) (N := 87) (j := 16) in_Mo rfl (by decide) mw_1810 d_Mo_mayCome_22)) (os_l (so_iload_n d_Mo_mayCome_25 rfl)))) (os_n (os_n (os_l (so_iaload d_Mo_mayCome_26)) (os_l (so_ifne d_Mo_mayCome_27 (by decide)))) (os_n (os_l (so_iconst d_Mo_mayCome_30 (by decide))) (os_l (so_zreturn rfl d_Mo_mayCome_31))))) (os_n (os_n (os_l (so_aload_n d_Mo_mayCome_32 rfl)) (os_n (os_l (so_get (C := R_Mo) (T := F_Mo) (N := 87) (j := 16) in_Mo rfl (by decide) mw_1810 d_Mo_mayCome_33)) (os_l (so_iload_n d_Mo_mayCome_36 rfl)))) (os_n (os_n (os_l (so_iaload d_Mo_mayCome_37)) (os_l (so_bipush d_Mo_mayCome_38 (by decide)))) (os_n (os_l (so_iceq d_Mo_mayCome_40 (by decide))) (os_l (so_iload_n d_Mo_mayCome_43 rfl))))))) (os_n (os_n (os_n (os_n (os_l (so_bipush d_Mo_mayCome_44 (by decide))) (os_n (os_l (so_icne d_Mo_mayCome_46 (by decide))) (os_l (so_iconst d_Mo_mayCome_49 (by decide))))) (os_n (os_l (so_goto d_Mo_mayCome_50 (by decide))) (os_n (os_l (so_aload_n d_Mo_mayCome_53 rfl)) (os_l (so_get (C := R_Mo) (T := F_Mo) (N := 87) (j := 19) in_Mo rfl (by decide) mw_1813 d_Mo_mayCome_54))))) (os_n (os_n (os_l (so_bipush d_Mo_mayCome_57 (by decide))) (os_n (os_l (so_aload_n d_Mo_mayCome_59 rfl)) (os_l (so_get (C := R_Mo) (T := F_Mo) (N := 87) (j := 16) in_Mo rfl (by decide) mw_1810 d_Mo_mayCome_60)))) (os_n (os_n (os_l (so_iload_n d_Mo_mayCome_63 rfl)) (os_l (so_iaload d_Mo_mayCome_64))) (os_n (os_l (so_imul d_Mo_mayCome_65)) (os_l (so_iload_n d_Mo_mayCome_66 rfl)))))) (os_n (os_n (os_n (os_l (so_iadd d_Mo_mayCome_67)) (os_n (os_l (so_iaload d_Mo_mayCome_68)) (os_l (so_istore d_Mo_mayCome_69 (by decide))))) (os_n (os_n (os_l (so_iload d_Mo_mayCome_71)) (os_l (so_ifeq d_Mo_mayCome_73 (by decide)))) (os_n (os_l (so_aload_n d_Mo_mayCome_76 rfl)) (os_l (so_iload_n d_Mo_mayCome_77 rfl))))) (os_n (os_n (os_l (so_callV (iv := mi_Mo_level) rfl rfl rfl mw_2436 mw_2438 sl_159 mw_18 mw_2439 ⟨by decide +kernel, by decide +kernel, by decide +kernel⟩ (by decide) d_Mo_mayCome_78)) (os_n (os_l (so_iload d_Mo_mayCome_81)) (os_l (so_iclt d_Mo_mayCome_83 (by decide))))) (os_n (os_n (os_l (so_iconst d_Mo_mayCome_86 (by decide))) (os_l (so_goto d_Mo_mayCome_87 (by decide)))) (os_n (os_l (so_iconst d_Mo_mayCome_90 (by decide))) (os_l (so_zreturn rfl d_Mo_mayCome_91))))))))
abbrev t_Mo_passes_255 : List UInt8 := 172 :: []
abbrev t_Mo_passes_254 : List UInt8 := 3 :: t_Mo_passes_255
abbrev t_Mo_passes_253 : List UInt8 := 172 :: t_Mo_passes_254
abbrev t_Mo_passes_252 : List UInt8 := 3 :: t_Mo_passes_253
abbrev t_Mo_passes_249 : List UInt8 := 167 :: 0 :: 4 :: t_Mo_passes_252
abbrev t_Mo_passes_248 : List UInt8 := 4 :: t_Mo_passes_249
abbrev t_Mo_passes_245 : List UInt8 := 154 :: 0 :: 7 :: t_Mo_passes_248
abbrev t_Mo_passes_244 : List UInt8 := 28 :: t_Mo_passes_245
abbrev t_Mo_passes_241 : List UInt8 := 160 :: 0 :: 11 :: t_Mo_passes_244
abbrev t_Mo_passes_240 : List UInt8 := 4 :: t_Mo_passes_241
abbrev t_Mo_passes_239 : List UInt8 := 27 :: t_Mo_passes_240
abbrev t_Mo_passes_238 : List UInt8 := 172 :: t_Mo_passes_239
abbrev t_Mo_passes_237 : List UInt8 := 3 :: t_Mo_passes_238
abbrev t_Mo_passes_234 : List UInt8 := 167 :: 0 :: 4 :: t_Mo_passes_237
abbrev t_Mo_passes_233 : List UInt8 := 4 :: t_Mo_passes_234
abbrev t_Mo_passes_230 : List UInt8 := 158 :: 0 :: 7 :: t_Mo_passes_233
abbrev t_Mo_passes_229 : List UInt8 := 27 :: t_Mo_passes_230
abbrev t_Mo_passes_228 : List UInt8 := 172 :: t_Mo_passes_229
abbrev t_Mo_passes_227 : List UInt8 := 3 :: t_Mo_passes_228
abbrev t_Mo_passes_224 : List UInt8 := 167 :: 0 :: 4 :: t_Mo_passes_227
abbrev t_Mo_passes_223 : List UInt8 := 4 :: t_Mo_passes_224
abbrev t_Mo_passes_220 : List UInt8 := 160 :: 0 :: 7 :: t_Mo_passes_223
abbrev t_Mo_passes_219 : List UInt8 := 4 :: t_Mo_passes_220
abbrev t_Mo_passes_218 : List UInt8 := 27 :: t_Mo_passes_219
abbrev t_Mo_passes_215 : List UInt8 := 154 :: 0 :: 8 :: t_Mo_passes_218
abbrev t_Mo_passes_213 : List UInt8 := 21 :: 6 :: t_Mo_passes_215
abbrev t_Mo_passes_210 : List UInt8 := 154 :: 0 :: 8 :: t_Mo_passes_213
abbrev t_Mo_passes_209 : List UInt8 := 27 :: t_Mo_passes_210
abbrev t_Mo_passes_208 : List UInt8 := 172 :: t_Mo_passes_209
abbrev t_Mo_passes_207 : List UInt8 := 3 :: t_Mo_passes_208
abbrev t_Mo_passes_204 : List UInt8 := 167 :: 0 :: 4 :: t_Mo_passes_207
abbrev t_Mo_passes_203 : List UInt8 := 4 :: t_Mo_passes_204
abbrev t_Mo_passes_200 : List UInt8 := 154 :: 0 :: 7 :: t_Mo_passes_203
abbrev t_Mo_passes_199 : List UInt8 := 28 :: t_Mo_passes_200
abbrev t_Mo_passes_198 : List UInt8 := 172 :: t_Mo_passes_199
abbrev t_Mo_passes_197 : List UInt8 := 3 :: t_Mo_passes_198
abbrev t_Mo_passes_194 : List UInt8 := 167 :: 0 :: 4 :: t_Mo_passes_197
abbrev t_Mo_passes_193 : List UInt8 := 4 :: t_Mo_passes_194
abbrev t_Mo_passes_190 : List UInt8 := 160 :: 0 :: 7 :: t_Mo_passes_193
abbrev t_Mo_passes_189 : List UInt8 := 4 :: t_Mo_passes_190
abbrev t_Mo_passes_187 : List UInt8 := 21 :: 4 :: t_Mo_passes_189
abbrev t_Mo_passes_184 : List UInt8 := 160 :: 0 :: 13 :: t_Mo_passes_187
abbrev t_Mo_passes_183 : List UInt8 := 6 :: t_Mo_passes_184
abbrev t_Mo_passes_182 : List UInt8 := 27 :: t_Mo_passes_183
abbrev t_Mo_passes_179 : List UInt8 := 159 :: 0 :: 14 :: t_Mo_passes_182
abbrev t_Mo_passes_178 : List UInt8 := 5 :: t_Mo_passes_179
abbrev t_Mo_passes_176 : List UInt8 := 21 :: 5 :: t_Mo_passes_178
abbrev t_Mo_passes_173 : List UInt8 := 154 :: 0 :: 9 :: t_Mo_passes_176
abbrev t_Mo_passes_171 : List UInt8 := 21 :: 4 :: t_Mo_passes_173
abbrev t_Mo_passes_168 : List UInt8 := 160 :: 0 :: 14 :: t_Mo_passes_171
abbrev t_Mo_passes_167 : List UInt8 := 5 :: t_Mo_passes_168
abbrev t_Mo_passes_166 : List UInt8 := 27 :: t_Mo_passes_167
abbrev t_Mo_passes_163 : List UInt8 := 159 :: 0 :: 30 :: t_Mo_passes_166
abbrev t_Mo_passes_162 : List UInt8 := 4 :: t_Mo_passes_163
abbrev t_Mo_passes_160 : List UInt8 := 21 :: 5 :: t_Mo_passes_162
abbrev t_Mo_passes_157 : List UInt8 := 160 :: 0 :: 9 :: t_Mo_passes_160
abbrev t_Mo_passes_156 : List UInt8 := 4 :: t_Mo_passes_157
abbrev t_Mo_passes_155 : List UInt8 := 27 :: t_Mo_passes_156
abbrev t_Mo_passes_152 : List UInt8 := 159 :: 0 :: 41 :: t_Mo_passes_155
abbrev t_Mo_passes_151 : List UInt8 := 7 :: t_Mo_passes_152
abbrev t_Mo_passes_150 : List UInt8 := 27 :: t_Mo_passes_151
abbrev t_Mo_passes_149 : List UInt8 := 172 :: t_Mo_passes_150
abbrev t_Mo_passes_148 : List UInt8 := 3 :: t_Mo_passes_149
abbrev t_Mo_passes_145 : List UInt8 := 167 :: 0 :: 4 :: t_Mo_passes_148
abbrev t_Mo_passes_144 : List UInt8 := 4 :: t_Mo_passes_145
abbrev t_Mo_passes_141 : List UInt8 := 160 :: 0 :: 7 :: t_Mo_passes_144
abbrev t_Mo_passes_140 : List UInt8 := 4 :: t_Mo_passes_141
abbrev t_Mo_passes_138 : List UInt8 := 21 :: 4 :: t_Mo_passes_140
abbrev t_Mo_passes_135 : List UInt8 := 160 :: 0 :: 13 :: t_Mo_passes_138
abbrev t_Mo_passes_134 : List UInt8 := 6 :: t_Mo_passes_135
abbrev t_Mo_passes_133 : List UInt8 := 27 :: t_Mo_passes_134
abbrev t_Mo_passes_130 : List UInt8 := 159 :: 0 :: 14 :: t_Mo_passes_133
abbrev t_Mo_passes_129 : List UInt8 := 5 :: t_Mo_passes_130
abbrev t_Mo_passes_127 : List UInt8 := 21 :: 5 :: t_Mo_passes_129
abbrev t_Mo_passes_124 : List UInt8 := 160 :: 0 :: 9 :: t_Mo_passes_127
abbrev t_Mo_passes_123 : List UInt8 := 4 :: t_Mo_passes_124
abbrev t_Mo_passes_122 : List UInt8 := 27 :: t_Mo_passes_123
abbrev t_Mo_passes_119 : List UInt8 := 159 :: 0 :: 25 :: t_Mo_passes_122
abbrev t_Mo_passes_118 : List UInt8 := 4 :: t_Mo_passes_119
abbrev t_Mo_passes_116 : List UInt8 := 21 :: 5 :: t_Mo_passes_118
abbrev t_Mo_passes_113 : List UInt8 := 154 :: 0 :: 9 :: t_Mo_passes_116
abbrev t_Mo_passes_112 : List UInt8 := 27 :: t_Mo_passes_113
abbrev t_Mo_passes_109 : List UInt8 := 154 :: 0 :: 24 :: t_Mo_passes_112
abbrev t_Mo_passes_107 : List UInt8 := 21 :: 4 :: t_Mo_passes_109
abbrev t_Mo_passes_106 : List UInt8 := 172 :: t_Mo_passes_107
abbrev t_Mo_passes_105 : List UInt8 := 3 :: t_Mo_passes_106
abbrev t_Mo_passes_102 : List UInt8 := 167 :: 0 :: 4 :: t_Mo_passes_105
abbrev t_Mo_passes_101 : List UInt8 := 4 :: t_Mo_passes_102
abbrev t_Mo_passes_98 : List UInt8 := 160 :: 0 :: 7 :: t_Mo_passes_101
abbrev t_Mo_passes_97 : List UInt8 := 4 :: t_Mo_passes_98
abbrev t_Mo_passes_96 : List UInt8 := 27 :: t_Mo_passes_97
abbrev t_Mo_passes_48 : List UInt8 := 170 :: 0 :: 0 :: 0 :: 0 :: 0 :: 0 :: 206 :: 0 :: 0 :: 0 :: 0 :: 0 :: 0 :: 0 :: 7 :: 0 :: 0 :: 0 :: 48 :: 0 :: 0 :: 0 :: 59 :: 0 :: 0 :: 0 :: 102 :: 0 :: 0 :: 0 :: 151 :: 0 :: 0 :: 0 :: 161 :: 0 :: 0 :: 0 :: 206 :: 0 :: 0 :: 0 :: 181 :: 0 :: 0 :: 0 :: 191 :: t_Mo_passes_96
abbrev t_Mo_passes_47 : List UInt8 := 26 :: t_Mo_passes_48
abbrev t_Mo_passes_45 : List UInt8 := 54 :: 6 :: t_Mo_passes_47
abbrev t_Mo_passes_44 : List UInt8 := 3 :: t_Mo_passes_45
abbrev t_Mo_passes_41 : List UInt8 := 167 :: 0 :: 4 :: t_Mo_passes_44
abbrev t_Mo_passes_40 : List UInt8 := 4 :: t_Mo_passes_41
abbrev t_Mo_passes_37 : List UInt8 := 154 :: 0 :: 7 :: t_Mo_passes_40
abbrev t_Mo_passes_36 : List UInt8 := 112 :: t_Mo_passes_37
abbrev t_Mo_passes_35 : List UInt8 := 5 :: t_Mo_passes_36
abbrev t_Mo_passes_33 : List UInt8 := 21 :: 4 :: t_Mo_passes_35
abbrev t_Mo_passes_30 : List UInt8 := 160 :: 0 :: 14 :: t_Mo_passes_33
abbrev t_Mo_passes_29 : List UInt8 := 96 :: t_Mo_passes_30
abbrev t_Mo_passes_28 : List UInt8 := 4 :: t_Mo_passes_29
abbrev t_Mo_passes_26 : List UInt8 := 21 :: 4 :: t_Mo_passes_28
abbrev t_Mo_passes_24 : List UInt8 := 21 :: 5 :: t_Mo_passes_26
abbrev t_Mo_passes_22 : List UInt8 := 54 :: 5 :: t_Mo_passes_24
abbrev t_Mo_passes_21 : List UInt8 := 28 :: t_Mo_passes_22
abbrev t_Mo_passes_18 : List UInt8 := 167 :: 0 :: 4 :: t_Mo_passes_21
abbrev t_Mo_passes_17 : List UInt8 := 29 :: t_Mo_passes_18
abbrev t_Mo_passes_14 : List UInt8 := 162 :: 0 :: 7 :: t_Mo_passes_17
abbrev t_Mo_passes_13 : List UInt8 := 29 :: t_Mo_passes_14
abbrev t_Mo_passes_12 : List UInt8 := 28 :: t_Mo_passes_13
abbrev t_Mo_passes_10 : List UInt8 := 54 :: 4 :: t_Mo_passes_12
abbrev t_Mo_passes_9 : List UInt8 := 29 :: t_Mo_passes_10
abbrev t_Mo_passes_6 : List UInt8 := 167 :: 0 :: 4 :: t_Mo_passes_9
abbrev t_Mo_passes_5 : List UInt8 := 28 :: t_Mo_passes_6
abbrev t_Mo_passes_2 : List UInt8 := 162 :: 0 :: 7 :: t_Mo_passes_5
abbrev t_Mo_passes_1 : List UInt8 := 29 :: t_Mo_passes_2
abbrev t_Mo_passes_0 : List UInt8 := 28 :: t_Mo_passes_1
theorem a_Mo_passes_0 : dk_at b_Mo_passes 0 t_Mo_passes_0 := dk_start (by decide +kernel)
theorem a_Mo_passes_1 : dk_at b_Mo_passes 1 t_Mo_passes_1 := dk_go 1 a_Mo_passes_0 rfl
theorem a_Mo_passes_2 : dk_at b_Mo_passes 2 t_Mo_passes_2 := dk_go 1 a_Mo_passes_1 rfl
theorem a_Mo_passes_5 : dk_at b_Mo_passes 5 t_Mo_passes_5 := dk_go 3 a_Mo_passes_2 rfl
theorem a_Mo_passes_6 : dk_at b_Mo_passes 6 t_Mo_passes_6 := dk_go 1 a_Mo_passes_5 rfl
theorem a_Mo_passes_9 : dk_at b_Mo_passes 9 t_Mo_passes_9 := dk_go 3 a_Mo_passes_6 rfl
theorem a_Mo_passes_10 : dk_at b_Mo_passes 10 t_Mo_passes_10 := dk_go 1 a_Mo_passes_9 rfl
theorem a_Mo_passes_12 : dk_at b_Mo_passes 12 t_Mo_passes_12 := dk_go 2 a_Mo_passes_10 rfl
theorem a_Mo_passes_13 : dk_at b_Mo_passes 13 t_Mo_passes_13 := dk_go 1 a_Mo_passes_12 rfl
theorem a_Mo_passes_14 : dk_at b_Mo_passes 14 t_Mo_passes_14 := dk_go 1 a_Mo_passes_13 rfl
theorem a_Mo_passes_17 : dk_at b_Mo_passes 17 t_Mo_passes_17 := dk_go 3 a_Mo_passes_14 rfl
theorem a_Mo_passes_18 : dk_at b_Mo_passes 18 t_Mo_passes_18 := dk_go 1 a_Mo_passes_17 rfl
theorem a_Mo_passes_21 : dk_at b_Mo_passes 21 t_Mo_passes_21 := dk_go 3 a_Mo_passes_18 rfl
theorem a_Mo_passes_22 : dk_at b_Mo_passes 22 t_Mo_passes_22 := dk_go 1 a_Mo_passes_21 rfl
theorem a_Mo_passes_24 : dk_at b_Mo_passes 24 t_Mo_passes_24 := dk_go 2 a_Mo_passes_22 rfl
theorem a_Mo_passes_26 : dk_at b_Mo_passes 26 t_Mo_passes_26 := dk_go 2 a_Mo_passes_24 rfl
theorem a_Mo_passes_28 : dk_at b_Mo_passes 28 t_Mo_passes_28 := dk_go 2 a_Mo_passes_26 rfl
theorem a_Mo_passes_29 : dk_at b_Mo_passes 29 t_Mo_passes_29 := dk_go 1 a_Mo_passes_28 rfl
theorem a_Mo_passes_30 : dk_at b_Mo_passes 30 t_Mo_passes_30 := dk_go 1 a_Mo_passes_29 rfl
theorem a_Mo_passes_33 : dk_at b_Mo_passes 33 t_Mo_passes_33 := dk_go 3 a_Mo_passes_30 rfl
theorem a_Mo_passes_35 : dk_at b_Mo_passes 35 t_Mo_passes_35 := dk_go 2 a_Mo_passes_33 rfl
theorem a_Mo_passes_36 : dk_at b_Mo_passes 36 t_Mo_passes_36 := dk_go 1 a_Mo_passes_35 rfl
theorem a_Mo_passes_37 : dk_at b_Mo_passes 37 t_Mo_passes_37 := dk_go 1 a_Mo_passes_36 rfl
theorem a_Mo_passes_40 : dk_at b_Mo_passes 40 t_Mo_passes_40 := dk_go 3 a_Mo_passes_37 rfl
theorem a_Mo_passes_41 : dk_at b_Mo_passes 41 t_Mo_passes_41 := dk_go 1 a_Mo_passes_40 rfl
theorem a_Mo_passes_44 : dk_at b_Mo_passes 44 t_Mo_passes_44 := dk_go 3 a_Mo_passes_41 rfl
theorem a_Mo_passes_45 : dk_at b_Mo_passes 45 t_Mo_passes_45 := dk_go 1 a_Mo_passes_44 rfl
theorem a_Mo_passes_47 : dk_at b_Mo_passes 47 t_Mo_passes_47 := dk_go 2 a_Mo_passes_45 rfl
theorem a_Mo_passes_48 : dk_at b_Mo_passes 48 t_Mo_passes_48 := dk_go 1 a_Mo_passes_47 rfl
theorem a_Mo_passes_96 : dk_at b_Mo_passes 96 t_Mo_passes_96 := dk_go 48 a_Mo_passes_48 rfl
theorem a_Mo_passes_97 : dk_at b_Mo_passes 97 t_Mo_passes_97 := dk_go 1 a_Mo_passes_96 rfl
theorem a_Mo_passes_98 : dk_at b_Mo_passes 98 t_Mo_passes_98 := dk_go 1 a_Mo_passes_97 rfl
theorem a_Mo_passes_101 : dk_at b_Mo_passes 101 t_Mo_passes_101 := dk_go 3 a_Mo_passes_98 rfl
theorem a_Mo_passes_102 : dk_at b_Mo_passes 102 t_Mo_passes_102 := dk_go 1 a_Mo_passes_101 rfl
theorem a_Mo_passes_105 : dk_at b_Mo_passes 105 t_Mo_passes_105 := dk_go 3 a_Mo_passes_102 rfl
theorem a_Mo_passes_106 : dk_at b_Mo_passes 106 t_Mo_passes_106 := dk_go 1 a_Mo_passes_105 rfl
theorem a_Mo_passes_107 : dk_at b_Mo_passes 107 t_Mo_passes_107 := dk_go 1 a_Mo_passes_106 rfl
theorem a_Mo_passes_109 : dk_at b_Mo_passes 109 t_Mo_passes_109 := dk_go 2 a_Mo_passes_107 rfl
theorem a_Mo_passes_112 : dk_at b_Mo_passes 112 t_Mo_passes_112 := dk_go 3 a_Mo_passes_109 rfl
theorem a_Mo_passes_113 : dk_at b_Mo_passes 113 t_Mo_passes_113 := dk_go 1 a_Mo_passes_112 rfl
theorem a_Mo_passes_116 : dk_at b_Mo_passes 116 t_Mo_passes_116 := dk_go 3 a_Mo_passes_113 rfl
theorem a_Mo_passes_118 : dk_at b_Mo_passes 118 t_Mo_passes_118 := dk_go 2 a_Mo_passes_116 rfl
theorem a_Mo_passes_119 : dk_at b_Mo_passes 119 t_Mo_passes_119 := dk_go 1 a_Mo_passes_118 rfl
theorem a_Mo_passes_122 : dk_at b_Mo_passes 122 t_Mo_passes_122 := dk_go 3 a_Mo_passes_119 rfl
theorem a_Mo_passes_123 : dk_at b_Mo_passes 123 t_Mo_passes_123 := dk_go 1 a_Mo_passes_122 rfl
theorem a_Mo_passes_124 : dk_at b_Mo_passes 124 t_Mo_passes_124 := dk_go 1 a_Mo_passes_123 rfl
theorem a_Mo_passes_127 : dk_at b_Mo_passes 127 t_Mo_passes_127 := dk_go 3 a_Mo_passes_124 rfl
theorem a_Mo_passes_129 : dk_at b_Mo_passes 129 t_Mo_passes_129 := dk_go 2 a_Mo_passes_127 rfl
theorem a_Mo_passes_130 : dk_at b_Mo_passes 130 t_Mo_passes_130 := dk_go 1 a_Mo_passes_129 rfl
theorem a_Mo_passes_133 : dk_at b_Mo_passes 133 t_Mo_passes_133 := dk_go 3 a_Mo_passes_130 rfl
theorem a_Mo_passes_134 : dk_at b_Mo_passes 134 t_Mo_passes_134 := dk_go 1 a_Mo_passes_133 rfl
theorem a_Mo_passes_135 : dk_at b_Mo_passes 135 t_Mo_passes_135 := dk_go 1 a_Mo_passes_134 rfl
theorem a_Mo_passes_138 : dk_at b_Mo_passes 138 t_Mo_passes_138 := dk_go 3 a_Mo_passes_135 rfl
theorem a_Mo_passes_140 : dk_at b_Mo_passes 140 t_Mo_passes_140 := dk_go 2 a_Mo_passes_138 rfl
theorem a_Mo_passes_141 : dk_at b_Mo_passes 141 t_Mo_passes_141 := dk_go 1 a_Mo_passes_140 rfl
theorem a_Mo_passes_144 : dk_at b_Mo_passes 144 t_Mo_passes_144 := dk_go 3 a_Mo_passes_141 rfl
theorem a_Mo_passes_145 : dk_at b_Mo_passes 145 t_Mo_passes_145 := dk_go 1 a_Mo_passes_144 rfl
theorem a_Mo_passes_148 : dk_at b_Mo_passes 148 t_Mo_passes_148 := dk_go 3 a_Mo_passes_145 rfl
theorem a_Mo_passes_149 : dk_at b_Mo_passes 149 t_Mo_passes_149 := dk_go 1 a_Mo_passes_148 rfl
theorem a_Mo_passes_150 : dk_at b_Mo_passes 150 t_Mo_passes_150 := dk_go 1 a_Mo_passes_149 rfl
theorem a_Mo_passes_151 : dk_at b_Mo_passes 151 t_Mo_passes_151 := dk_go 1 a_Mo_passes_150 rfl
theorem a_Mo_passes_152 : dk_at b_Mo_passes 152 t_Mo_passes_152 := dk_go 1 a_Mo_passes_151 rfl
theorem a_Mo_passes_155 : dk_at b_Mo_passes 155 t_Mo_passes_155 := dk_go 3 a_Mo_passes_152 rfl
theorem a_Mo_passes_156 : dk_at b_Mo_passes 156 t_Mo_passes_156 := dk_go 1 a_Mo_passes_155 rfl
theorem a_Mo_passes_157 : dk_at b_Mo_passes 157 t_Mo_passes_157 := dk_go 1 a_Mo_passes_156 rfl
theorem a_Mo_passes_160 : dk_at b_Mo_passes 160 t_Mo_passes_160 := dk_go 3 a_Mo_passes_157 rfl
theorem a_Mo_passes_162 : dk_at b_Mo_passes 162 t_Mo_passes_162 := dk_go 2 a_Mo_passes_160 rfl
theorem a_Mo_passes_163 : dk_at b_Mo_passes 163 t_Mo_passes_163 := dk_go 1 a_Mo_passes_162 rfl
theorem a_Mo_passes_166 : dk_at b_Mo_passes 166 t_Mo_passes_166 := dk_go 3 a_Mo_passes_163 rfl
theorem a_Mo_passes_167 : dk_at b_Mo_passes 167 t_Mo_passes_167 := dk_go 1 a_Mo_passes_166 rfl
theorem a_Mo_passes_168 : dk_at b_Mo_passes 168 t_Mo_passes_168 := dk_go 1 a_Mo_passes_167 rfl
theorem a_Mo_passes_171 : dk_at b_Mo_passes 171 t_Mo_passes_171 := dk_go 3 a_Mo_passes_168 rfl
theorem a_Mo_passes_173 : dk_at b_Mo_passes 173 t_Mo_passes_173 := dk_go 2 a_Mo_passes_171 rfl
theorem a_Mo_passes_176 : dk_at b_Mo_passes 176 t_Mo_passes_176 := dk_go 3 a_Mo_passes_173 rfl
theorem a_Mo_passes_178 : dk_at b_Mo_passes 178 t_Mo_passes_178 := dk_go 2 a_Mo_passes_176 rfl
theorem a_Mo_passes_179 : dk_at b_Mo_passes 179 t_Mo_passes_179 := dk_go 1 a_Mo_passes_178 rfl
theorem a_Mo_passes_182 : dk_at b_Mo_passes 182 t_Mo_passes_182 := dk_go 3 a_Mo_passes_179 rfl
theorem a_Mo_passes_183 : dk_at b_Mo_passes 183 t_Mo_passes_183 := dk_go 1 a_Mo_passes_182 rfl
theorem a_Mo_passes_184 : dk_at b_Mo_passes 184 t_Mo_passes_184 := dk_go 1 a_Mo_passes_183 rfl
theorem a_Mo_passes_187 : dk_at b_Mo_passes 187 t_Mo_passes_187 := dk_go 3 a_Mo_passes_184 rfl
theorem a_Mo_passes_189 : dk_at b_Mo_passes 189 t_Mo_passes_189 := dk_go 2 a_Mo_passes_187 rfl
theorem a_Mo_passes_190 : dk_at b_Mo_passes 190 t_Mo_passes_190 := dk_go 1 a_Mo_passes_189 rfl
theorem a_Mo_passes_193 : dk_at b_Mo_passes 193 t_Mo_passes_193 := dk_go 3 a_Mo_passes_190 rfl
theorem a_Mo_passes_194 : dk_at b_Mo_passes 194 t_Mo_passes_194 := dk_go 1 a_Mo_passes_193 rfl
theorem a_Mo_passes_197 : dk_at b_Mo_passes 197 t_Mo_passes_197 := dk_go 3 a_Mo_passes_194 rfl
theorem a_Mo_passes_198 : dk_at b_Mo_passes 198 t_Mo_passes_198 := dk_go 1 a_Mo_passes_197 rfl
theorem a_Mo_passes_199 : dk_at b_Mo_passes 199 t_Mo_passes_199 := dk_go 1 a_Mo_passes_198 rfl
theorem a_Mo_passes_200 : dk_at b_Mo_passes 200 t_Mo_passes_200 := dk_go 1 a_Mo_passes_199 rfl
theorem a_Mo_passes_203 : dk_at b_Mo_passes 203 t_Mo_passes_203 := dk_go 3 a_Mo_passes_200 rfl
theorem a_Mo_passes_204 : dk_at b_Mo_passes 204 t_Mo_passes_204 := dk_go 1 a_Mo_passes_203 rfl
theorem a_Mo_passes_207 : dk_at b_Mo_passes 207 t_Mo_passes_207 := dk_go 3 a_Mo_passes_204 rfl
theorem a_Mo_passes_208 : dk_at b_Mo_passes 208 t_Mo_passes_208 := dk_go 1 a_Mo_passes_207 rfl
theorem a_Mo_passes_209 : dk_at b_Mo_passes 209 t_Mo_passes_209 := dk_go 1 a_Mo_passes_208 rfl
theorem a_Mo_passes_210 : dk_at b_Mo_passes 210 t_Mo_passes_210 := dk_go 1 a_Mo_passes_209 rfl
theorem a_Mo_passes_213 : dk_at b_Mo_passes 213 t_Mo_passes_213 := dk_go 3 a_Mo_passes_210 rfl
theorem a_Mo_passes_215 : dk_at b_Mo_passes 215 t_Mo_passes_215 := dk_go 2 a_Mo_passes_213 rfl
theorem a_Mo_passes_218 : dk_at b_Mo_passes 218 t_Mo_passes_218 := dk_go 3 a_Mo_passes_215 rfl
theorem a_Mo_passes_219 : dk_at b_Mo_passes 219 t_Mo_passes_219 := dk_go 1 a_Mo_passes_218 rfl
theorem a_Mo_passes_220 : dk_at b_Mo_passes 220 t_Mo_passes_220 := dk_go 1 a_Mo_passes_219 rfl
theorem a_Mo_passes_223 : dk_at b_Mo_passes 223 t_Mo_passes_223 := dk_go 3 a_Mo_passes_220 rfl
theorem a_Mo_passes_224 : dk_at b_Mo_passes 224 t_Mo_passes_224 := dk_go 1 a_Mo_passes_223 rfl
theorem a_Mo_passes_227 : dk_at b_Mo_passes 227 t_Mo_passes_227 := dk_go 3 a_Mo_passes_224 rfl
theorem a_Mo_passes_228 : dk_at b_Mo_passes 228 t_Mo_passes_228 := dk_go 1 a_Mo_passes_227 rfl
theorem a_Mo_passes_229 : dk_at b_Mo_passes 229 t_Mo_passes_229 := dk_go 1 a_Mo_passes_228 rfl
theorem a_Mo_passes_230 : dk_at b_Mo_passes 230 t_Mo_passes_230 := dk_go 1 a_Mo_passes_229 rfl
theorem a_Mo_passes_233 : dk_at b_Mo_passes 233 t_Mo_passes_233 := dk_go 3 a_Mo_passes_230 rfl
theorem a_Mo_passes_234 : dk_at b_Mo_passes 234 t_Mo_passes_234 := dk_go 1 a_Mo_passes_233 rfl
theorem a_Mo_passes_237 : dk_at b_Mo_passes 237 t_Mo_passes_237 := dk_go 3 a_Mo_passes_234 rfl
theorem a_Mo_passes_238 : dk_at b_Mo_passes 238 t_Mo_passes_238 := dk_go 1 a_Mo_passes_237 rfl
theorem a_Mo_passes_239 : dk_at b_Mo_passes 239 t_Mo_passes_239 := dk_go 1 a_Mo_passes_238 rfl
theorem a_Mo_passes_240 : dk_at b_Mo_passes 240 t_Mo_passes_240 := dk_go 1 a_Mo_passes_239 rfl
theorem a_Mo_passes_241 : dk_at b_Mo_passes 241 t_Mo_passes_241 := dk_go 1 a_Mo_passes_240 rfl
theorem a_Mo_passes_244 : dk_at b_Mo_passes 244 t_Mo_passes_244 := dk_go 3 a_Mo_passes_241 rfl
theorem a_Mo_passes_245 : dk_at b_Mo_passes 245 t_Mo_passes_245 := dk_go 1 a_Mo_passes_244 rfl
theorem a_Mo_passes_248 : dk_at b_Mo_passes 248 t_Mo_passes_248 := dk_go 3 a_Mo_passes_245 rfl
theorem a_Mo_passes_249 : dk_at b_Mo_passes 249 t_Mo_passes_249 := dk_go 1 a_Mo_passes_248 rfl
theorem a_Mo_passes_252 : dk_at b_Mo_passes 252 t_Mo_passes_252 := dk_go 3 a_Mo_passes_249 rfl
theorem a_Mo_passes_253 : dk_at b_Mo_passes 253 t_Mo_passes_253 := dk_go 1 a_Mo_passes_252 rfl
theorem a_Mo_passes_254 : dk_at b_Mo_passes 254 t_Mo_passes_254 := dk_go 1 a_Mo_passes_253 rfl
theorem a_Mo_passes_255 : dk_at b_Mo_passes 255 t_Mo_passes_255 := dk_go 1 a_Mo_passes_254 rfl
theorem d_Mo_passes_0 : decode b_Mo_passes 0 = .ok (.iload_n 2, 1) := dk_0 a_Mo_passes_0 (dko_28 _)
theorem d_Mo_passes_1 : decode b_Mo_passes 1 = .ok (.iload_n 3, 1) := dk_0 a_Mo_passes_1 (dko_29 _)
theorem d_Mo_passes_2 : decode b_Mo_passes 2 = .ok (.if_icmp .ge 7, 3) := dk_S2 a_Mo_passes_2 (dko_162 _) (by decide +kernel)
theorem d_Mo_passes_5 : decode b_Mo_passes 5 = .ok (.iload_n 2, 1) := dk_0 a_Mo_passes_5 (dko_28 _)
theorem d_Mo_passes_6 : decode b_Mo_passes 6 = .ok (.goto 4, 3) := dk_S2 a_Mo_passes_6 (dko_167 _) (by decide +kernel)
theorem d_Mo_passes_9 : decode b_Mo_passes 9 = .ok (.iload_n 3, 1) := dk_0 a_Mo_passes_9 (dko_29 _)
theorem d_Mo_passes_10 : decode b_Mo_passes 10 = .ok (.istore 4, 2) := dk_U1 a_Mo_passes_10 (dko_54 _) rfl
theorem d_Mo_passes_12 : decode b_Mo_passes 12 = .ok (.iload_n 2, 1) := dk_0 a_Mo_passes_12 (dko_28 _)
theorem d_Mo_passes_13 : decode b_Mo_passes 13 = .ok (.iload_n 3, 1) := dk_0 a_Mo_passes_13 (dko_29 _)
theorem d_Mo_passes_14 : decode b_Mo_passes 14 = .ok (.if_icmp .ge 7, 3) := dk_S2 a_Mo_passes_14 (dko_162 _) (by decide +kernel)
theorem d_Mo_passes_17 : decode b_Mo_passes 17 = .ok (.iload_n 3, 1) := dk_0 a_Mo_passes_17 (dko_29 _)
theorem d_Mo_passes_18 : decode b_Mo_passes 18 = .ok (.goto 4, 3) := dk_S2 a_Mo_passes_18 (dko_167 _) (by decide +kernel)
theorem d_Mo_passes_21 : decode b_Mo_passes 21 = .ok (.iload_n 2, 1) := dk_0 a_Mo_passes_21 (dko_28 _)
theorem d_Mo_passes_22 : decode b_Mo_passes 22 = .ok (.istore 5, 2) := dk_U1 a_Mo_passes_22 (dko_54 _) rfl
theorem d_Mo_passes_24 : decode b_Mo_passes 24 = .ok (.iload 5, 2) := dk_U1 a_Mo_passes_24 (dko_21 _) rfl
theorem d_Mo_passes_26 : decode b_Mo_passes 26 = .ok (.iload 4, 2) := dk_U1 a_Mo_passes_26 (dko_21 _) rfl
theorem d_Mo_passes_28 : decode b_Mo_passes 28 = .ok (.iconst 1, 1) := dk_0 a_Mo_passes_28 (dko_4 _)
theorem d_Mo_passes_29 : decode b_Mo_passes 29 = .ok (.iadd, 1) := dk_0 a_Mo_passes_29 (dko_96 _)
theorem d_Mo_passes_30 : decode b_Mo_passes 30 = .ok (.if_icmp .ne 14, 3) := dk_S2 a_Mo_passes_30 (dko_160 _) (by decide +kernel)
theorem d_Mo_passes_33 : decode b_Mo_passes 33 = .ok (.iload 4, 2) := dk_U1 a_Mo_passes_33 (dko_21 _) rfl
theorem d_Mo_passes_35 : decode b_Mo_passes 35 = .ok (.iconst 2, 1) := dk_0 a_Mo_passes_35 (dko_5 _)
theorem d_Mo_passes_36 : decode b_Mo_passes 36 = .ok (.irem, 1) := dk_0 a_Mo_passes_36 (dko_112 _)
theorem d_Mo_passes_37 : decode b_Mo_passes 37 = .ok (.ifCond .ne 7, 3) := dk_S2 a_Mo_passes_37 (dko_154 _) (by decide +kernel)
theorem d_Mo_passes_40 : decode b_Mo_passes 40 = .ok (.iconst 1, 1) := dk_0 a_Mo_passes_40 (dko_4 _)
theorem d_Mo_passes_41 : decode b_Mo_passes 41 = .ok (.goto 4, 3) := dk_S2 a_Mo_passes_41 (dko_167 _) (by decide +kernel)
theorem d_Mo_passes_44 : decode b_Mo_passes 44 = .ok (.iconst 0, 1) := dk_0 a_Mo_passes_44 (dko_3 _)
theorem d_Mo_passes_45 : decode b_Mo_passes 45 = .ok (.istore 6, 2) := dk_U1 a_Mo_passes_45 (dko_54 _) rfl
theorem d_Mo_passes_47 : decode b_Mo_passes 47 = .ok (.iload_n 0, 1) := dk_0 a_Mo_passes_47 (dko_26 _)
theorem d_Mo_passes_48 : decode b_Mo_passes 48 = .ok (.tableswitch 206 0 7 #[48, 59, 102, 151, 161, 206, 181, 191], 48) := by decide +kernel
theorem d_Mo_passes_96 : decode b_Mo_passes 96 = .ok (.iload_n 1, 1) := dk_0 a_Mo_passes_96 (dko_27 _)
theorem d_Mo_passes_97 : decode b_Mo_passes 97 = .ok (.iconst 1, 1) := dk_0 a_Mo_passes_97 (dko_4 _)
theorem d_Mo_passes_98 : decode b_Mo_passes 98 = .ok (.if_icmp .ne 7, 3) := dk_S2 a_Mo_passes_98 (dko_160 _) (by decide +kernel)
theorem d_Mo_passes_101 : decode b_Mo_passes 101 = .ok (.iconst 1, 1) := dk_0 a_Mo_passes_101 (dko_4 _)
theorem d_Mo_passes_102 : decode b_Mo_passes 102 = .ok (.goto 4, 3) := dk_S2 a_Mo_passes_102 (dko_167 _) (by decide +kernel)
theorem d_Mo_passes_105 : decode b_Mo_passes 105 = .ok (.iconst 0, 1) := dk_0 a_Mo_passes_105 (dko_3 _)
theorem d_Mo_passes_106 : decode b_Mo_passes 106 = .ok (.ireturn, 1) := dk_0 a_Mo_passes_106 (dko_172 _)
theorem d_Mo_passes_107 : decode b_Mo_passes 107 = .ok (.iload 4, 2) := dk_U1 a_Mo_passes_107 (dko_21 _) rfl
theorem d_Mo_passes_109 : decode b_Mo_passes 109 = .ok (.ifCond .ne 24, 3) := dk_S2 a_Mo_passes_109 (dko_154 _) (by decide +kernel)
theorem d_Mo_passes_112 : decode b_Mo_passes 112 = .ok (.iload_n 1, 1) := dk_0 a_Mo_passes_112 (dko_27 _)
theorem d_Mo_passes_113 : decode b_Mo_passes 113 = .ok (.ifCond .ne 9, 3) := dk_S2 a_Mo_passes_113 (dko_154 _) (by decide +kernel)
theorem d_Mo_passes_116 : decode b_Mo_passes 116 = .ok (.iload 5, 2) := dk_U1 a_Mo_passes_116 (dko_21 _) rfl
theorem d_Mo_passes_118 : decode b_Mo_passes 118 = .ok (.iconst 1, 1) := dk_0 a_Mo_passes_118 (dko_4 _)
theorem d_Mo_passes_119 : decode b_Mo_passes 119 = .ok (.if_icmp .eq 25, 3) := dk_S2 a_Mo_passes_119 (dko_159 _) (by decide +kernel)
theorem d_Mo_passes_122 : decode b_Mo_passes 122 = .ok (.iload_n 1, 1) := dk_0 a_Mo_passes_122 (dko_27 _)
theorem d_Mo_passes_123 : decode b_Mo_passes 123 = .ok (.iconst 1, 1) := dk_0 a_Mo_passes_123 (dko_4 _)
theorem d_Mo_passes_124 : decode b_Mo_passes 124 = .ok (.if_icmp .ne 9, 3) := dk_S2 a_Mo_passes_124 (dko_160 _) (by decide +kernel)
theorem d_Mo_passes_127 : decode b_Mo_passes 127 = .ok (.iload 5, 2) := dk_U1 a_Mo_passes_127 (dko_21 _) rfl
theorem d_Mo_passes_129 : decode b_Mo_passes 129 = .ok (.iconst 2, 1) := dk_0 a_Mo_passes_129 (dko_5 _)
theorem d_Mo_passes_130 : decode b_Mo_passes 130 = .ok (.if_icmp .eq 14, 3) := dk_S2 a_Mo_passes_130 (dko_159 _) (by decide +kernel)
theorem d_Mo_passes_133 : decode b_Mo_passes 133 = .ok (.iload_n 1, 1) := dk_0 a_Mo_passes_133 (dko_27 _)
theorem d_Mo_passes_134 : decode b_Mo_passes 134 = .ok (.iconst 3, 1) := dk_0 a_Mo_passes_134 (dko_6 _)
theorem d_Mo_passes_135 : decode b_Mo_passes 135 = .ok (.if_icmp .ne 13, 3) := dk_S2 a_Mo_passes_135 (dko_160 _) (by decide +kernel)
theorem d_Mo_passes_138 : decode b_Mo_passes 138 = .ok (.iload 4, 2) := dk_U1 a_Mo_passes_138 (dko_21 _) rfl
theorem d_Mo_passes_140 : decode b_Mo_passes 140 = .ok (.iconst 1, 1) := dk_0 a_Mo_passes_140 (dko_4 _)
theorem d_Mo_passes_141 : decode b_Mo_passes 141 = .ok (.if_icmp .ne 7, 3) := dk_S2 a_Mo_passes_141 (dko_160 _) (by decide +kernel)
theorem d_Mo_passes_144 : decode b_Mo_passes 144 = .ok (.iconst 1, 1) := dk_0 a_Mo_passes_144 (dko_4 _)
theorem d_Mo_passes_145 : decode b_Mo_passes 145 = .ok (.goto 4, 3) := dk_S2 a_Mo_passes_145 (dko_167 _) (by decide +kernel)
theorem d_Mo_passes_148 : decode b_Mo_passes 148 = .ok (.iconst 0, 1) := dk_0 a_Mo_passes_148 (dko_3 _)
theorem d_Mo_passes_149 : decode b_Mo_passes 149 = .ok (.ireturn, 1) := dk_0 a_Mo_passes_149 (dko_172 _)
theorem d_Mo_passes_150 : decode b_Mo_passes 150 = .ok (.iload_n 1, 1) := dk_0 a_Mo_passes_150 (dko_27 _)
theorem d_Mo_passes_151 : decode b_Mo_passes 151 = .ok (.iconst 4, 1) := dk_0 a_Mo_passes_151 (dko_7 _)
theorem d_Mo_passes_152 : decode b_Mo_passes 152 = .ok (.if_icmp .eq 41, 3) := dk_S2 a_Mo_passes_152 (dko_159 _) (by decide +kernel)
theorem d_Mo_passes_155 : decode b_Mo_passes 155 = .ok (.iload_n 1, 1) := dk_0 a_Mo_passes_155 (dko_27 _)
theorem d_Mo_passes_156 : decode b_Mo_passes 156 = .ok (.iconst 1, 1) := dk_0 a_Mo_passes_156 (dko_4 _)
theorem d_Mo_passes_157 : decode b_Mo_passes 157 = .ok (.if_icmp .ne 9, 3) := dk_S2 a_Mo_passes_157 (dko_160 _) (by decide +kernel)
theorem d_Mo_passes_160 : decode b_Mo_passes 160 = .ok (.iload 5, 2) := dk_U1 a_Mo_passes_160 (dko_21 _) rfl
theorem d_Mo_passes_162 : decode b_Mo_passes 162 = .ok (.iconst 1, 1) := dk_0 a_Mo_passes_162 (dko_4 _)
theorem d_Mo_passes_163 : decode b_Mo_passes 163 = .ok (.if_icmp .eq 30, 3) := dk_S2 a_Mo_passes_163 (dko_159 _) (by decide +kernel)
theorem d_Mo_passes_166 : decode b_Mo_passes 166 = .ok (.iload_n 1, 1) := dk_0 a_Mo_passes_166 (dko_27 _)
theorem d_Mo_passes_167 : decode b_Mo_passes 167 = .ok (.iconst 2, 1) := dk_0 a_Mo_passes_167 (dko_5 _)
theorem d_Mo_passes_168 : decode b_Mo_passes 168 = .ok (.if_icmp .ne 14, 3) := dk_S2 a_Mo_passes_168 (dko_160 _) (by decide +kernel)
theorem d_Mo_passes_171 : decode b_Mo_passes 171 = .ok (.iload 4, 2) := dk_U1 a_Mo_passes_171 (dko_21 _) rfl
theorem d_Mo_passes_173 : decode b_Mo_passes 173 = .ok (.ifCond .ne 9, 3) := dk_S2 a_Mo_passes_173 (dko_154 _) (by decide +kernel)
theorem d_Mo_passes_176 : decode b_Mo_passes 176 = .ok (.iload 5, 2) := dk_U1 a_Mo_passes_176 (dko_21 _) rfl
theorem d_Mo_passes_178 : decode b_Mo_passes 178 = .ok (.iconst 2, 1) := dk_0 a_Mo_passes_178 (dko_5 _)
theorem d_Mo_passes_179 : decode b_Mo_passes 179 = .ok (.if_icmp .eq 14, 3) := dk_S2 a_Mo_passes_179 (dko_159 _) (by decide +kernel)
theorem d_Mo_passes_182 : decode b_Mo_passes 182 = .ok (.iload_n 1, 1) := dk_0 a_Mo_passes_182 (dko_27 _)
theorem d_Mo_passes_183 : decode b_Mo_passes 183 = .ok (.iconst 3, 1) := dk_0 a_Mo_passes_183 (dko_6 _)
theorem d_Mo_passes_184 : decode b_Mo_passes 184 = .ok (.if_icmp .ne 13, 3) := dk_S2 a_Mo_passes_184 (dko_160 _) (by decide +kernel)
theorem d_Mo_passes_187 : decode b_Mo_passes 187 = .ok (.iload 4, 2) := dk_U1 a_Mo_passes_187 (dko_21 _) rfl
theorem d_Mo_passes_189 : decode b_Mo_passes 189 = .ok (.iconst 1, 1) := dk_0 a_Mo_passes_189 (dko_4 _)
theorem d_Mo_passes_190 : decode b_Mo_passes 190 = .ok (.if_icmp .ne 7, 3) := dk_S2 a_Mo_passes_190 (dko_160 _) (by decide +kernel)
theorem d_Mo_passes_193 : decode b_Mo_passes 193 = .ok (.iconst 1, 1) := dk_0 a_Mo_passes_193 (dko_4 _)
theorem d_Mo_passes_194 : decode b_Mo_passes 194 = .ok (.goto 4, 3) := dk_S2 a_Mo_passes_194 (dko_167 _) (by decide +kernel)
theorem d_Mo_passes_197 : decode b_Mo_passes 197 = .ok (.iconst 0, 1) := dk_0 a_Mo_passes_197 (dko_3 _)
theorem d_Mo_passes_198 : decode b_Mo_passes 198 = .ok (.ireturn, 1) := dk_0 a_Mo_passes_198 (dko_172 _)
theorem d_Mo_passes_199 : decode b_Mo_passes 199 = .ok (.iload_n 2, 1) := dk_0 a_Mo_passes_199 (dko_28 _)
theorem d_Mo_passes_200 : decode b_Mo_passes 200 = .ok (.ifCond .ne 7, 3) := dk_S2 a_Mo_passes_200 (dko_154 _) (by decide +kernel)
theorem d_Mo_passes_203 : decode b_Mo_passes 203 = .ok (.iconst 1, 1) := dk_0 a_Mo_passes_203 (dko_4 _)
theorem d_Mo_passes_204 : decode b_Mo_passes 204 = .ok (.goto 4, 3) := dk_S2 a_Mo_passes_204 (dko_167 _) (by decide +kernel)
theorem d_Mo_passes_207 : decode b_Mo_passes 207 = .ok (.iconst 0, 1) := dk_0 a_Mo_passes_207 (dko_3 _)
theorem d_Mo_passes_208 : decode b_Mo_passes 208 = .ok (.ireturn, 1) := dk_0 a_Mo_passes_208 (dko_172 _)
theorem d_Mo_passes_209 : decode b_Mo_passes 209 = .ok (.iload_n 1, 1) := dk_0 a_Mo_passes_209 (dko_27 _)
theorem d_Mo_passes_210 : decode b_Mo_passes 210 = .ok (.ifCond .ne 8, 3) := dk_S2 a_Mo_passes_210 (dko_154 _) (by decide +kernel)
theorem d_Mo_passes_213 : decode b_Mo_passes 213 = .ok (.iload 6, 2) := dk_U1 a_Mo_passes_213 (dko_21 _) rfl
theorem d_Mo_passes_215 : decode b_Mo_passes 215 = .ok (.ifCond .ne 8, 3) := dk_S2 a_Mo_passes_215 (dko_154 _) (by decide +kernel)
theorem d_Mo_passes_218 : decode b_Mo_passes 218 = .ok (.iload_n 1, 1) := dk_0 a_Mo_passes_218 (dko_27 _)
theorem d_Mo_passes_219 : decode b_Mo_passes 219 = .ok (.iconst 1, 1) := dk_0 a_Mo_passes_219 (dko_4 _)
theorem d_Mo_passes_220 : decode b_Mo_passes 220 = .ok (.if_icmp .ne 7, 3) := dk_S2 a_Mo_passes_220 (dko_160 _) (by decide +kernel)
theorem d_Mo_passes_223 : decode b_Mo_passes 223 = .ok (.iconst 1, 1) := dk_0 a_Mo_passes_223 (dko_4 _)
theorem d_Mo_passes_224 : decode b_Mo_passes 224 = .ok (.goto 4, 3) := dk_S2 a_Mo_passes_224 (dko_167 _) (by decide +kernel)
theorem d_Mo_passes_227 : decode b_Mo_passes 227 = .ok (.iconst 0, 1) := dk_0 a_Mo_passes_227 (dko_3 _)
theorem d_Mo_passes_228 : decode b_Mo_passes 228 = .ok (.ireturn, 1) := dk_0 a_Mo_passes_228 (dko_172 _)
theorem d_Mo_passes_229 : decode b_Mo_passes 229 = .ok (.iload_n 1, 1) := dk_0 a_Mo_passes_229 (dko_27 _)
theorem d_Mo_passes_230 : decode b_Mo_passes 230 = .ok (.ifCond .le 7, 3) := dk_S2 a_Mo_passes_230 (dko_158 _) (by decide +kernel)
theorem d_Mo_passes_233 : decode b_Mo_passes 233 = .ok (.iconst 1, 1) := dk_0 a_Mo_passes_233 (dko_4 _)
theorem d_Mo_passes_234 : decode b_Mo_passes 234 = .ok (.goto 4, 3) := dk_S2 a_Mo_passes_234 (dko_167 _) (by decide +kernel)
theorem d_Mo_passes_237 : decode b_Mo_passes 237 = .ok (.iconst 0, 1) := dk_0 a_Mo_passes_237 (dko_3 _)
theorem d_Mo_passes_238 : decode b_Mo_passes 238 = .ok (.ireturn, 1) := dk_0 a_Mo_passes_238 (dko_172 _)
theorem d_Mo_passes_239 : decode b_Mo_passes 239 = .ok (.iload_n 1, 1) := dk_0 a_Mo_passes_239 (dko_27 _)
theorem d_Mo_passes_240 : decode b_Mo_passes 240 = .ok (.iconst 1, 1) := dk_0 a_Mo_passes_240 (dko_4 _)
theorem d_Mo_passes_241 : decode b_Mo_passes 241 = .ok (.if_icmp .ne 11, 3) := dk_S2 a_Mo_passes_241 (dko_160 _) (by decide +kernel)
theorem d_Mo_passes_244 : decode b_Mo_passes 244 = .ok (.iload_n 2, 1) := dk_0 a_Mo_passes_244 (dko_28 _)
theorem d_Mo_passes_245 : decode b_Mo_passes 245 = .ok (.ifCond .ne 7, 3) := dk_S2 a_Mo_passes_245 (dko_154 _) (by decide +kernel)
theorem d_Mo_passes_248 : decode b_Mo_passes 248 = .ok (.iconst 1, 1) := dk_0 a_Mo_passes_248 (dko_4 _)
theorem d_Mo_passes_249 : decode b_Mo_passes 249 = .ok (.goto 4, 3) := dk_S2 a_Mo_passes_249 (dko_167 _) (by decide +kernel)
theorem d_Mo_passes_252 : decode b_Mo_passes 252 = .ok (.iconst 0, 1) := dk_0 a_Mo_passes_252 (dko_3 _)
theorem d_Mo_passes_253 : decode b_Mo_passes 253 = .ok (.ireturn, 1) := dk_0 a_Mo_passes_253 (dko_172 _)
theorem d_Mo_passes_254 : decode b_Mo_passes 254 = .ok (.iconst 0, 1) := dk_0 a_Mo_passes_254 (dko_3 _)
theorem d_Mo_passes_255 : decode b_Mo_passes 255 = .ok (.ireturn, 1) := dk_0 a_Mo_passes_255 (dko_172 _)
set_option maxHeartbeats 4000000 in
set_option maxRecDepth 100000 in
theorem ok_Mo_passes (pc : Nat) : OpS mt mi_Mo_passes pc (cs_Mo_passes pc) := (os_n (os_n (os_n (os_n (os_n (os_n (os_l (so_iload_n d_Mo_passes_0 rfl)) (os_n (os_l (so_iload_n d_Mo_passes_1 rfl)) (os_l (so_icge d_Mo_passes_2 (by decide))))) (os_n (os_n (os_l (so_iload_n d_Mo_passes_5 rfl)) (os_l (so_goto d_Mo_passes_6 (by decide)))) (os_n (os_l (so_iload_n d_Mo_passes_9 rfl)) (os_l (so_istore d_Mo_passes_10 (by decide)))))) (os_n (os_n (os_n (os_l (so_iload_n d_Mo_passes_12 rfl)) (os_l (so_iload_n d_Mo_passes_13 rfl))) (os_n (os_l (so_icge d_Mo_passes_14 (by decide))) (os_l (so_iload_n d_Mo_passes_17 rfl)))) (os_n (os_n (os_l (so_goto d_Mo_passes_18 (by decide))) (os_l (so_iload_n d_Mo_passes_21 rfl))) (os_n (os_l (so_istore d_Mo_passes_22 (by decide))) (os_l (so_iload d_Mo_passes_24)))))) (os_n (os_n (os_n (os_l (so_iload d_Mo_passes_26)) (os_n (os_l (so_iconst d_Mo_passes_28 (by decide))) (os_l (so_iadd d_Mo_passes_29)))) (os_n (os_n (os_l (so_icne d_Mo_passes_30 (by decide))) (os_l (so_iload d_Mo_passes_33))) (os_n (os_l (so_iconst d_Mo_passes_35 (by decide))) (os_l (so_irem d_Mo_passes_36))))) (os_n (os_n (os_n (os_l (so_ifne d_Mo_passes_37 (by decide))) (os_l (so_iconst d_Mo_passes_40 (by decide)))) (os_n (os_l (so_goto d_Mo_passes_41 (by decide))) (os_l (so_iconst d_Mo_passes_44 (by decide))))) (os_n (os_n (os_l (so_istore d_Mo_passes_45 (by decide))) (os_l (so_iload_n d_Mo_passes_47 rfl))) (os_n (os_l (so_tab d_Mo_passes_48 (by decide) (by decide) (by decide))) (os_l (so_iload_n d_Mo_passes_96 rfl))))))) (os_n (os_n (os_n (os_n (os_l (so_iconst d_Mo_passes_97 (by decide))) (os_n (os_l (so_icne d_Mo_passes_98 (by decide))) (os_l (so_iconst d_Mo_passes_101 (by decide))))) (os_n (os_n (os_l (so_goto d_Mo_passes_102 (by decide))) (os_l (so_iconst d_Mo_passes_105 (by decide)))) (os_n (os_l (so_zreturn rfl d_Mo_passes_106)) (os_l (so_iload d_Mo_passes_107))))) (os_n (os_n (os_n (os_l (so_ifne d_Mo_passes_109 (by decide))) (os_l (so_iload_n d_Mo_passes_112 rfl))) (os_n (os_l (so_ifne d_Mo_passes_113 (by decide))) (os_l (so_iload d_Mo_passes_116)))) (os_n (os_n (os_l (so_iconst d_Mo_passes_118 (by decide))) (os_l (so_iceq d_Mo_passes_119 (by decide)))) (os_n (os_l (so_iload_n d_Mo_passes_122 rfl)) (os_l (so_iconst d_Mo_passes_123 (by decide))))))) (os_n (os_n (os_n (os_l (so_icne d_Mo_passes_124 (by decide))) (os_n (os_l (so_iload d_Mo_passes_127)) (os_l (so_iconst d_Mo_passes_129 (by decide))))) (os_n (os_n (os_l (so_iceq d_Mo_passes_130 (by decide))) (os_l (so_iload_n d_Mo_passes_133 rfl))) (os_n (os_l (so_iconst d_Mo_passes_134 (by decide))) (os_l (so_icne d_Mo_passes_135 (by decide)))))) (os_n (os_n (os_n (os_l (so_iload d_Mo_passes_138)) (os_l (so_iconst d_Mo_passes_140 (by decide)))) (os_n (os_l (so_icne d_Mo_passes_141 (by decide))) (os_l (so_iconst d_Mo_passes_144 (by decide))))) (os_n (os_n (os_l (so_goto d_Mo_passes_145 (by decide))) (os_l (so_iconst d_Mo_passes_148 (by decide)))) (os_n (os_l (so_zreturn rfl d_Mo_passes_149)) (os_l (so_iload_n d_Mo_passes_150 rfl)))))))) (os_n (os_n (os_n (os_n (os_n (os_l (so_iconst d_Mo_passes_151 (by decide))) (os_n (os_l (so_iceq d_Mo_passes_152 (by decide))) (os_l (so_iload_n d_Mo_passes_155 rfl)))) (os_n (os_n (os_l (so_iconst d_Mo_passes_156 (by decide))) (os_l (so_icne d_Mo_passes_157 (by decide)))) (os_n (os_l (so_iload d_Mo_passes_160)) (os_l (so_iconst d_Mo_passes_162 (by decide)))))) (os_n (os_n (os_n (os_l (so_iceq d_Mo_passes_163 (by decide))) (os_l (so_iload_n d_Mo_passes_166 rfl))) (os_n (os_l (so_iconst d_Mo_passes_167 (by decide))) (os_l (so_icne d_Mo_passes_168 (by decide))))) (os_n (os_n (os_l (so_iload d_Mo_passes_171)) (os_l (so_ifne d_Mo_passes_173 (by decide)))) (os_n (os_l (so_iload d_Mo_passes_176)) (os_l (so_iconst d_Mo_passes_178 (by decide))))))) (os_n (os_n (os_n (os_l (so_iceq d_Mo_passes_179 (by decide))) (os_n (os_l (so_iload_n d_Mo_passes_182 rfl)) (os_l (so_iconst d_Mo_passes_183 (by decide))))) (os_n (os_n (os_l (so_icne d_Mo_passes_184 (by decide))) (os_l (so_iload d_Mo_passes_187))) (os_n (os_l (so_iconst d_Mo_passes_189 (by decide))) (os_l (so_icne d_Mo_passes_190 (by decide)))))) (os_n (os_n (os_n (os_l (so_iconst d_Mo_passes_193 (by decide))) (os_l (so_goto d_Mo_passes_194 (by decide)))) (os_n (os_l (so_iconst d_Mo_passes_197 (by decide))) (os_l (so_zreturn rfl d_Mo_passes_198)))) (os_n (os_n (os_l (so_iload_n d_Mo_passes_199 rfl)) (os_l (so_ifne d_Mo_passes_200 (by decide)))) (os_n (os_l (so_iconst d_Mo_passes_203 (by decide))) (os_l (so_goto d_Mo_passes_204 (by decide)))))))) (os_n (os_n (os_n (os_n (os_l (so_iconst d_Mo_passes_207 (by decide))) (os_n (os_l (so_zreturn rfl d_Mo_passes_208)) (os_l (so_iload_n d_Mo_passes_209 rfl)))) (os_n (os_n (os_l (so_ifne d_Mo_passes_210 (by decide))) (os_l (so_iload d_Mo_passes_213))) (os_n (os_l (so_ifne d_Mo_passes_215 (by decide))) (os_l (so_iload_n d_Mo_passes_218 rfl))))) (os_n (os_n (os_n (os_l (so_iconst d_Mo_passes_219 (by decide))) (os_l (so_icne d_Mo_passes_220 (by decide)))) (os_n (os_l (so_iconst d_Mo_passes_223 (by decide))) (os_l (so_goto d_Mo_passes_224 (by decide))))) (os_n (os_n (os_l (so_iconst d_Mo_passes_227 (by decide))) (os_l (so_zreturn rfl d_Mo_passes_228))) (os_n (os_l (so_iload_n d_Mo_passes_229 rfl)) (os_l (so_ifle d_Mo_passes_230 (by decide))))))) (os_n (os_n (os_n (os_l (so_iconst d_Mo_passes_233 (by decide))) (os_n (os_l (so_goto d_Mo_passes_234 (by decide))) (os_l (so_iconst d_Mo_passes_237 (by decide))))) (os_n (os_n (os_l (so_zreturn rfl d_Mo_passes_238)) (os_l (so_iload_n d_Mo_passes_239 rfl))) (os_n (os_l (so_iconst d_Mo_passes_240 (by decide))) (os_l (so_icne d_Mo_passes_241 (by decide)))))) (os_n (os_n (os_n (os_l (so_iload_n d_Mo_passes_244 rfl)) (os_l (so_ifne d_Mo_passes_245 (by decide)))) (os_n (os_l (so_iconst d_Mo_passes_248 (by decide))) (os_l (so_goto d_Mo_passes_249 (by decide))))) (os_n (os_n (os_l (so_iconst d_Mo_passes_252 (by decide))) (os_l (so_zreturn rfl d_Mo_passes_253))) (os_n (os_l (so_iconst d_Mo_passes_254 (by decide))) (os_l (so_zreturn rfl d_Mo_passes_255)))))))))
abbrev t_Mo_least_27 : List UInt8 := 172 :: []
abbrev t_Mo_least_26 : List UInt8 := 2 :: t_Mo_least_27
abbrev t_Mo_least_23 : List UInt8 := 167 :: 255 :: 235 :: t_Mo_least_26
abbrev t_Mo_least_20 : List UInt8 := 132 :: 3 :: 1 :: t_Mo_least_23
abbrev t_Mo_least_19 : List UInt8 := 172 :: t_Mo_least_20
abbrev t_Mo_least_18 : List UInt8 := 29 :: t_Mo_least_19
abbrev t_Mo_least_15 : List UInt8 := 153 :: 0 :: 5 :: t_Mo_least_18
abbrev t_Mo_least_12 : List UInt8 := 184 :: 1 :: 76 :: t_Mo_least_15
abbrev t_Mo_least_11 : List UInt8 := 28 :: t_Mo_least_12
abbrev t_Mo_least_10 : List UInt8 := 27 :: t_Mo_least_11
abbrev t_Mo_least_9 : List UInt8 := 29 :: t_Mo_least_10
abbrev t_Mo_least_8 : List UInt8 := 26 :: t_Mo_least_9
abbrev t_Mo_least_5 : List UInt8 := 162 :: 0 :: 21 :: t_Mo_least_8
abbrev t_Mo_least_3 : List UInt8 := 16 :: 10 :: t_Mo_least_5
abbrev t_Mo_least_2 : List UInt8 := 29 :: t_Mo_least_3
abbrev t_Mo_least_1 : List UInt8 := 62 :: t_Mo_least_2
abbrev t_Mo_least_0 : List UInt8 := 3 :: t_Mo_least_1
theorem a_Mo_least_0 : dk_at b_Mo_least 0 t_Mo_least_0 := dk_start (by decide +kernel)
theorem a_Mo_least_1 : dk_at b_Mo_least 1 t_Mo_least_1 := dk_go 1 a_Mo_least_0 rfl
theorem a_Mo_least_2 : dk_at b_Mo_least 2 t_Mo_least_2 := dk_go 1 a_Mo_least_1 rfl
theorem a_Mo_least_3 : dk_at b_Mo_least 3 t_Mo_least_3 := dk_go 1 a_Mo_least_2 rfl
theorem a_Mo_least_5 : dk_at b_Mo_least 5 t_Mo_least_5 := dk_go 2 a_Mo_least_3 rfl
theorem a_Mo_least_8 : dk_at b_Mo_least 8 t_Mo_least_8 := dk_go 3 a_Mo_least_5 rfl
theorem a_Mo_least_9 : dk_at b_Mo_least 9 t_Mo_least_9 := dk_go 1 a_Mo_least_8 rfl
theorem a_Mo_least_10 : dk_at b_Mo_least 10 t_Mo_least_10 := dk_go 1 a_Mo_least_9 rfl
theorem a_Mo_least_11 : dk_at b_Mo_least 11 t_Mo_least_11 := dk_go 1 a_Mo_least_10 rfl
theorem a_Mo_least_12 : dk_at b_Mo_least 12 t_Mo_least_12 := dk_go 1 a_Mo_least_11 rfl
theorem a_Mo_least_15 : dk_at b_Mo_least 15 t_Mo_least_15 := dk_go 3 a_Mo_least_12 rfl
theorem a_Mo_least_18 : dk_at b_Mo_least 18 t_Mo_least_18 := dk_go 3 a_Mo_least_15 rfl
theorem a_Mo_least_19 : dk_at b_Mo_least 19 t_Mo_least_19 := dk_go 1 a_Mo_least_18 rfl
theorem a_Mo_least_20 : dk_at b_Mo_least 20 t_Mo_least_20 := dk_go 1 a_Mo_least_19 rfl
theorem a_Mo_least_23 : dk_at b_Mo_least 23 t_Mo_least_23 := dk_go 3 a_Mo_least_20 rfl
theorem a_Mo_least_26 : dk_at b_Mo_least 26 t_Mo_least_26 := dk_go 3 a_Mo_least_23 rfl
theorem a_Mo_least_27 : dk_at b_Mo_least 27 t_Mo_least_27 := dk_go 1 a_Mo_least_26 rfl
theorem d_Mo_least_0 : decode b_Mo_least 0 = .ok (.iconst 0, 1) := dk_0 a_Mo_least_0 (dko_3 _)
theorem d_Mo_least_1 : decode b_Mo_least 1 = .ok (.istore_n 3, 1) := dk_0 a_Mo_least_1 (dko_62 _)
theorem d_Mo_least_2 : decode b_Mo_least 2 = .ok (.iload_n 3, 1) := dk_0 a_Mo_least_2 (dko_29 _)
theorem d_Mo_least_3 : decode b_Mo_least 3 = .ok (.bipush 10, 2) := dk_S1 a_Mo_least_3 (dko_16 _) (by decide +kernel)
theorem d_Mo_least_5 : decode b_Mo_least 5 = .ok (.if_icmp .ge 21, 3) := dk_S2 a_Mo_least_5 (dko_162 _) (by decide +kernel)
theorem d_Mo_least_8 : decode b_Mo_least 8 = .ok (.iload_n 0, 1) := dk_0 a_Mo_least_8 (dko_26 _)
theorem d_Mo_least_9 : decode b_Mo_least 9 = .ok (.iload_n 3, 1) := dk_0 a_Mo_least_9 (dko_29 _)
theorem d_Mo_least_10 : decode b_Mo_least 10 = .ok (.iload_n 1, 1) := dk_0 a_Mo_least_10 (dko_27 _)
theorem d_Mo_least_11 : decode b_Mo_least 11 = .ok (.iload_n 2, 1) := dk_0 a_Mo_least_11 (dko_28 _)
theorem d_Mo_least_12 : decode b_Mo_least 12 = .ok (.invokestatic 332, 3) := dk_U2 a_Mo_least_12 (dko_184 _) rfl
theorem d_Mo_least_15 : decode b_Mo_least 15 = .ok (.ifCond .eq 5, 3) := dk_S2 a_Mo_least_15 (dko_153 _) (by decide +kernel)
theorem d_Mo_least_18 : decode b_Mo_least 18 = .ok (.iload_n 3, 1) := dk_0 a_Mo_least_18 (dko_29 _)
theorem d_Mo_least_19 : decode b_Mo_least 19 = .ok (.ireturn, 1) := dk_0 a_Mo_least_19 (dko_172 _)
theorem d_Mo_least_20 : decode b_Mo_least 20 = .ok (.iinc 3 1, 3) := dk_US a_Mo_least_20 (dko_132 _) (by decide +kernel)
theorem d_Mo_least_23 : decode b_Mo_least 23 = .ok (.goto (-21), 3) := dk_S2 a_Mo_least_23 (dko_167 _) (by decide +kernel)
theorem d_Mo_least_26 : decode b_Mo_least 26 = .ok (.iconst (-1), 1) := dk_0 a_Mo_least_26 (dko_2 _)
theorem d_Mo_least_27 : decode b_Mo_least 27 = .ok (.ireturn, 1) := dk_0 a_Mo_least_27 (dko_172 _)
set_option maxHeartbeats 4000000 in
set_option maxRecDepth 100000 in
theorem ok_Mo_least (pc : Nat) : OpS mt mi_Mo_least pc (cs_Mo_least pc) := (os_n (os_n (os_n (os_n (os_l (so_iconst d_Mo_least_0 (by decide))) (os_l (so_istore_n d_Mo_least_1 rfl (by decide)))) (os_n (os_l (so_iload_n d_Mo_least_2 rfl)) (os_l (so_bipush d_Mo_least_3 (by decide))))) (os_n (os_n (os_l (so_icge d_Mo_least_5 (by decide))) (os_l (so_iload_n d_Mo_least_8 rfl))) (os_n (os_l (so_iload_n d_Mo_least_9 rfl)) (os_l (so_iload_n d_Mo_least_10 rfl))))) (os_n (os_n (os_n (os_l (so_iload_n d_Mo_least_11 rfl)) (os_l (so_callS (iv := mi_Mo_passes) rfl mw_2393 mw_2394 mw_18 mw_2395 ⟨by decide +kernel, by decide +kernel, by decide +kernel⟩ (by decide) d_Mo_least_12))) (os_n (os_l (so_ifeq d_Mo_least_15 (by decide))) (os_l (so_iload_n d_Mo_least_18 rfl)))) (os_n (os_n (os_l (so_ireturn rfl d_Mo_least_19)) (os_l (so_iinc d_Mo_least_20 (by decide) (by decide)))) (os_n (os_l (so_goto d_Mo_least_23 (by decide))) (os_n (os_l (so_iconst d_Mo_least_26 (by decide))) (os_l (so_ireturn rfl d_Mo_least_27)))))))
abbrev t_Mo_join_236 : List UInt8 := 177 :: []
abbrev t_Mo_join_233 : List UInt8 := 167 :: 255 :: 53 :: t_Mo_join_236
abbrev t_Mo_join_230 : List UInt8 := 132 :: 1 :: 1 :: t_Mo_join_233
abbrev t_Mo_join_227 : List UInt8 := 167 :: 255 :: 125 :: t_Mo_join_230
abbrev t_Mo_join_224 : List UInt8 := 132 :: 4 :: 1 :: t_Mo_join_227
abbrev t_Mo_join_223 : List UInt8 := 80 :: t_Mo_join_224
abbrev t_Mo_join_222 : List UInt8 := 129 :: t_Mo_join_223
abbrev t_Mo_join_221 : List UInt8 := 121 :: t_Mo_join_222
abbrev t_Mo_join_220 : List UInt8 := 96 :: t_Mo_join_221
abbrev t_Mo_join_219 : List UInt8 := 108 :: t_Mo_join_220
abbrev t_Mo_join_218 : List UInt8 := 5 :: t_Mo_join_219
abbrev t_Mo_join_216 : List UInt8 := 21 :: 4 :: t_Mo_join_218
abbrev t_Mo_join_213 : List UInt8 := 180 :: 1 :: 22 :: t_Mo_join_216
abbrev t_Mo_join_212 : List UInt8 := 42 :: t_Mo_join_213
abbrev t_Mo_join_211 : List UInt8 := 10 :: t_Mo_join_212
abbrev t_Mo_join_210 : List UInt8 := 47 :: t_Mo_join_211
abbrev t_Mo_join_209 : List UInt8 := 92 :: t_Mo_join_210
abbrev t_Mo_join_208 : List UInt8 := 29 :: t_Mo_join_209
abbrev t_Mo_join_205 : List UInt8 := 180 :: 0 :: 125 :: t_Mo_join_208
abbrev t_Mo_join_204 : List UInt8 := 42 :: t_Mo_join_205
abbrev t_Mo_join_201 : List UInt8 := 153 :: 0 :: 23 :: t_Mo_join_204
abbrev t_Mo_join_199 : List UInt8 := 21 :: 5 :: t_Mo_join_201
abbrev t_Mo_join_197 : List UInt8 := 54 :: 5 :: t_Mo_join_199
abbrev t_Mo_join_196 : List UInt8 := 3 :: t_Mo_join_197
abbrev t_Mo_join_193 : List UInt8 := 167 :: 0 :: 4 :: t_Mo_join_196
abbrev t_Mo_join_192 : List UInt8 := 4 :: t_Mo_join_193
abbrev t_Mo_join_189 : List UInt8 := 153 :: 0 :: 7 :: t_Mo_join_192
abbrev t_Mo_join_186 : List UInt8 := 184 :: 1 :: 76 :: t_Mo_join_189
abbrev t_Mo_join_185 : List UInt8 := 46 :: t_Mo_join_186
abbrev t_Mo_join_183 : List UInt8 := 21 :: 4 :: t_Mo_join_185
abbrev t_Mo_join_180 : List UInt8 := 180 :: 0 :: 52 :: t_Mo_join_183
abbrev t_Mo_join_179 : List UInt8 := 42 :: t_Mo_join_180
abbrev t_Mo_join_178 : List UInt8 := 46 :: t_Mo_join_179
abbrev t_Mo_join_177 : List UInt8 := 27 :: t_Mo_join_178
abbrev t_Mo_join_174 : List UInt8 := 180 :: 0 :: 52 :: t_Mo_join_177
abbrev t_Mo_join_173 : List UInt8 := 42 :: t_Mo_join_174
abbrev t_Mo_join_172 : List UInt8 := 46 :: t_Mo_join_173
abbrev t_Mo_join_171 : List UInt8 := 28 :: t_Mo_join_172
abbrev t_Mo_join_168 : List UInt8 := 180 :: 0 :: 40 :: t_Mo_join_171
abbrev t_Mo_join_167 : List UInt8 := 42 :: t_Mo_join_168
abbrev t_Mo_join_166 : List UInt8 := 100 :: t_Mo_join_167
abbrev t_Mo_join_165 : List UInt8 := 5 :: t_Mo_join_166
abbrev t_Mo_join_164 : List UInt8 := 46 :: t_Mo_join_165
abbrev t_Mo_join_163 : List UInt8 := 28 :: t_Mo_join_164
abbrev t_Mo_join_160 : List UInt8 := 180 :: 0 :: 27 :: t_Mo_join_163
abbrev t_Mo_join_159 : List UInt8 := 42 :: t_Mo_join_160
abbrev t_Mo_join_156 : List UInt8 := 167 :: 0 :: 36 :: t_Mo_join_159
abbrev t_Mo_join_153 : List UInt8 := 154 :: 0 :: 43 :: t_Mo_join_156
abbrev t_Mo_join_152 : List UInt8 := 46 :: t_Mo_join_153
abbrev t_Mo_join_151 : List UInt8 := 27 :: t_Mo_join_152
abbrev t_Mo_join_148 : List UInt8 := 180 :: 0 :: 52 :: t_Mo_join_151
abbrev t_Mo_join_147 : List UInt8 := 42 :: t_Mo_join_148
abbrev t_Mo_join_144 : List UInt8 := 160 :: 0 :: 15 :: t_Mo_join_147
abbrev t_Mo_join_143 : List UInt8 := 4 :: t_Mo_join_144
abbrev t_Mo_join_142 : List UInt8 := 46 :: t_Mo_join_143
abbrev t_Mo_join_141 : List UInt8 := 28 :: t_Mo_join_142
abbrev t_Mo_join_138 : List UInt8 := 180 :: 0 :: 27 :: t_Mo_join_141
abbrev t_Mo_join_137 : List UInt8 := 42 :: t_Mo_join_138
abbrev t_Mo_join_134 : List UInt8 := 159 :: 0 :: 62 :: t_Mo_join_137
abbrev t_Mo_join_133 : List UInt8 := 27 :: t_Mo_join_134
abbrev t_Mo_join_131 : List UInt8 := 21 :: 4 :: t_Mo_join_133
abbrev t_Mo_join_128 : List UInt8 := 160 :: 0 :: 68 :: t_Mo_join_131
abbrev t_Mo_join_127 : List UInt8 := 28 :: t_Mo_join_128
abbrev t_Mo_join_126 : List UInt8 := 46 :: t_Mo_join_127
abbrev t_Mo_join_124 : List UInt8 := 21 :: 4 :: t_Mo_join_126
abbrev t_Mo_join_121 : List UInt8 := 180 :: 0 :: 49 :: t_Mo_join_124
abbrev t_Mo_join_120 : List UInt8 := 42 :: t_Mo_join_121
abbrev t_Mo_join_117 : List UInt8 := 153 :: 0 :: 113 :: t_Mo_join_120
abbrev t_Mo_join_116 : List UInt8 := 46 :: t_Mo_join_117
abbrev t_Mo_join_115 : List UInt8 := 28 :: t_Mo_join_116
abbrev t_Mo_join_112 : List UInt8 := 180 :: 0 :: 27 :: t_Mo_join_115
abbrev t_Mo_join_111 : List UInt8 := 42 :: t_Mo_join_112
abbrev t_Mo_join_108 : List UInt8 := 155 :: 0 :: 122 :: t_Mo_join_111
abbrev t_Mo_join_107 : List UInt8 := 28 :: t_Mo_join_108
abbrev t_Mo_join_104 : List UInt8 := 162 :: 0 :: 126 :: t_Mo_join_107
abbrev t_Mo_join_103 : List UInt8 := 104 :: t_Mo_join_104
abbrev t_Mo_join_100 : List UInt8 := 180 :: 1 :: 25 :: t_Mo_join_103
abbrev t_Mo_join_99 : List UInt8 := 42 :: t_Mo_join_100
abbrev t_Mo_join_98 : List UInt8 := 5 :: t_Mo_join_99
abbrev t_Mo_join_96 : List UInt8 := 21 :: 4 :: t_Mo_join_98
abbrev t_Mo_join_94 : List UInt8 := 54 :: 4 :: t_Mo_join_96
abbrev t_Mo_join_93 : List UInt8 := 3 :: t_Mo_join_94
abbrev t_Mo_join_92 : List UInt8 := 80 :: t_Mo_join_93
abbrev t_Mo_join_91 : List UInt8 := 129 :: t_Mo_join_92
abbrev t_Mo_join_90 : List UInt8 := 121 :: t_Mo_join_91
abbrev t_Mo_join_89 : List UInt8 := 29 :: t_Mo_join_90
abbrev t_Mo_join_88 : List UInt8 := 10 :: t_Mo_join_89
abbrev t_Mo_join_87 : List UInt8 := 47 :: t_Mo_join_88
abbrev t_Mo_join_86 : List UInt8 := 92 :: t_Mo_join_87
abbrev t_Mo_join_85 : List UInt8 := 28 :: t_Mo_join_86
abbrev t_Mo_join_82 : List UInt8 := 180 :: 0 :: 125 :: t_Mo_join_85
abbrev t_Mo_join_81 : List UInt8 := 42 :: t_Mo_join_82
abbrev t_Mo_join_80 : List UInt8 := 80 :: t_Mo_join_81
abbrev t_Mo_join_79 : List UInt8 := 129 :: t_Mo_join_80
abbrev t_Mo_join_78 : List UInt8 := 121 :: t_Mo_join_79
abbrev t_Mo_join_77 : List UInt8 := 28 :: t_Mo_join_78
abbrev t_Mo_join_76 : List UInt8 := 10 :: t_Mo_join_77
abbrev t_Mo_join_75 : List UInt8 := 47 :: t_Mo_join_76
abbrev t_Mo_join_74 : List UInt8 := 92 :: t_Mo_join_75
abbrev t_Mo_join_73 : List UInt8 := 29 :: t_Mo_join_74
abbrev t_Mo_join_70 : List UInt8 := 180 :: 0 :: 125 :: t_Mo_join_73
abbrev t_Mo_join_69 : List UInt8 := 42 :: t_Mo_join_70
abbrev t_Mo_join_66 : List UInt8 := 154 :: 0 :: 27 :: t_Mo_join_69
abbrev t_Mo_join_65 : List UInt8 := 46 :: t_Mo_join_66
abbrev t_Mo_join_64 : List UInt8 := 28 :: t_Mo_join_65
abbrev t_Mo_join_61 : List UInt8 := 180 :: 0 :: 27 :: t_Mo_join_64
abbrev t_Mo_join_60 : List UInt8 := 42 :: t_Mo_join_61
abbrev t_Mo_join_57 : List UInt8 := 155 :: 0 :: 36 :: t_Mo_join_60
abbrev t_Mo_join_56 : List UInt8 := 28 :: t_Mo_join_57
abbrev t_Mo_join_55 : List UInt8 := 62 :: t_Mo_join_56
abbrev t_Mo_join_54 : List UInt8 := 96 :: t_Mo_join_55
abbrev t_Mo_join_53 : List UInt8 := 108 :: t_Mo_join_54
abbrev t_Mo_join_52 : List UInt8 := 5 :: t_Mo_join_53
abbrev t_Mo_join_51 : List UInt8 := 27 :: t_Mo_join_52
abbrev t_Mo_join_48 : List UInt8 := 180 :: 1 :: 22 :: t_Mo_join_51
abbrev t_Mo_join_47 : List UInt8 := 42 :: t_Mo_join_48
abbrev t_Mo_join_46 : List UInt8 := 61 :: t_Mo_join_47
abbrev t_Mo_join_45 : List UInt8 := 46 :: t_Mo_join_46
abbrev t_Mo_join_44 : List UInt8 := 27 :: t_Mo_join_45
abbrev t_Mo_join_41 : List UInt8 := 180 :: 0 :: 49 :: t_Mo_join_44
abbrev t_Mo_join_40 : List UInt8 := 42 :: t_Mo_join_41
abbrev t_Mo_join_37 : List UInt8 := 162 :: 0 :: 199 :: t_Mo_join_40
abbrev t_Mo_join_36 : List UInt8 := 104 :: t_Mo_join_37
abbrev t_Mo_join_33 : List UInt8 := 180 :: 1 :: 25 :: t_Mo_join_36
abbrev t_Mo_join_32 : List UInt8 := 42 :: t_Mo_join_33
abbrev t_Mo_join_31 : List UInt8 := 5 :: t_Mo_join_32
abbrev t_Mo_join_30 : List UInt8 := 27 :: t_Mo_join_31
abbrev t_Mo_join_29 : List UInt8 := 60 :: t_Mo_join_30
abbrev t_Mo_join_28 : List UInt8 := 3 :: t_Mo_join_29
abbrev t_Mo_join_25 : List UInt8 := 167 :: 255 :: 233 :: t_Mo_join_28
abbrev t_Mo_join_22 : List UInt8 := 132 :: 1 :: 1 :: t_Mo_join_25
abbrev t_Mo_join_21 : List UInt8 := 80 :: t_Mo_join_22
abbrev t_Mo_join_20 : List UInt8 := 9 :: t_Mo_join_21
abbrev t_Mo_join_19 : List UInt8 := 27 :: t_Mo_join_20
abbrev t_Mo_join_16 : List UInt8 := 180 :: 0 :: 125 :: t_Mo_join_19
abbrev t_Mo_join_15 : List UInt8 := 42 :: t_Mo_join_16
abbrev t_Mo_join_12 : List UInt8 := 162 :: 0 :: 16 :: t_Mo_join_15
abbrev t_Mo_join_11 : List UInt8 := 96 :: t_Mo_join_12
abbrev t_Mo_join_8 : List UInt8 := 180 :: 1 :: 25 :: t_Mo_join_11
abbrev t_Mo_join_7 : List UInt8 := 42 :: t_Mo_join_8
abbrev t_Mo_join_4 : List UInt8 := 180 :: 1 :: 22 :: t_Mo_join_7
abbrev t_Mo_join_3 : List UInt8 := 42 :: t_Mo_join_4
abbrev t_Mo_join_2 : List UInt8 := 27 :: t_Mo_join_3
abbrev t_Mo_join_1 : List UInt8 := 60 :: t_Mo_join_2
abbrev t_Mo_join_0 : List UInt8 := 3 :: t_Mo_join_1
theorem a_Mo_join_0 : dk_at b_Mo_join 0 t_Mo_join_0 := dk_start (by decide +kernel)
theorem a_Mo_join_1 : dk_at b_Mo_join 1 t_Mo_join_1 := dk_go 1 a_Mo_join_0 rfl
theorem a_Mo_join_2 : dk_at b_Mo_join 2 t_Mo_join_2 := dk_go 1 a_Mo_join_1 rfl
theorem a_Mo_join_3 : dk_at b_Mo_join 3 t_Mo_join_3 := dk_go 1 a_Mo_join_2 rfl
theorem a_Mo_join_4 : dk_at b_Mo_join 4 t_Mo_join_4 := dk_go 1 a_Mo_join_3 rfl
theorem a_Mo_join_7 : dk_at b_Mo_join 7 t_Mo_join_7 := dk_go 3 a_Mo_join_4 rfl
theorem a_Mo_join_8 : dk_at b_Mo_join 8 t_Mo_join_8 := dk_go 1 a_Mo_join_7 rfl
theorem a_Mo_join_11 : dk_at b_Mo_join 11 t_Mo_join_11 := dk_go 3 a_Mo_join_8 rfl
theorem a_Mo_join_12 : dk_at b_Mo_join 12 t_Mo_join_12 := dk_go 1 a_Mo_join_11 rfl
theorem a_Mo_join_15 : dk_at b_Mo_join 15 t_Mo_join_15 := dk_go 3 a_Mo_join_12 rfl
theorem a_Mo_join_16 : dk_at b_Mo_join 16 t_Mo_join_16 := dk_go 1 a_Mo_join_15 rfl
theorem a_Mo_join_19 : dk_at b_Mo_join 19 t_Mo_join_19 := dk_go 3 a_Mo_join_16 rfl
theorem a_Mo_join_20 : dk_at b_Mo_join 20 t_Mo_join_20 := dk_go 1 a_Mo_join_19 rfl
theorem a_Mo_join_21 : dk_at b_Mo_join 21 t_Mo_join_21 := dk_go 1 a_Mo_join_20 rfl
theorem a_Mo_join_22 : dk_at b_Mo_join 22 t_Mo_join_22 := dk_go 1 a_Mo_join_21 rfl
theorem a_Mo_join_25 : dk_at b_Mo_join 25 t_Mo_join_25 := dk_go 3 a_Mo_join_22 rfl
theorem a_Mo_join_28 : dk_at b_Mo_join 28 t_Mo_join_28 := dk_go 3 a_Mo_join_25 rfl
theorem a_Mo_join_29 : dk_at b_Mo_join 29 t_Mo_join_29 := dk_go 1 a_Mo_join_28 rfl
theorem a_Mo_join_30 : dk_at b_Mo_join 30 t_Mo_join_30 := dk_go 1 a_Mo_join_29 rfl
theorem a_Mo_join_31 : dk_at b_Mo_join 31 t_Mo_join_31 := dk_go 1 a_Mo_join_30 rfl
theorem a_Mo_join_32 : dk_at b_Mo_join 32 t_Mo_join_32 := dk_go 1 a_Mo_join_31 rfl
theorem a_Mo_join_33 : dk_at b_Mo_join 33 t_Mo_join_33 := dk_go 1 a_Mo_join_32 rfl
theorem a_Mo_join_36 : dk_at b_Mo_join 36 t_Mo_join_36 := dk_go 3 a_Mo_join_33 rfl
theorem a_Mo_join_37 : dk_at b_Mo_join 37 t_Mo_join_37 := dk_go 1 a_Mo_join_36 rfl
theorem a_Mo_join_40 : dk_at b_Mo_join 40 t_Mo_join_40 := dk_go 3 a_Mo_join_37 rfl
theorem a_Mo_join_41 : dk_at b_Mo_join 41 t_Mo_join_41 := dk_go 1 a_Mo_join_40 rfl
theorem a_Mo_join_44 : dk_at b_Mo_join 44 t_Mo_join_44 := dk_go 3 a_Mo_join_41 rfl
theorem a_Mo_join_45 : dk_at b_Mo_join 45 t_Mo_join_45 := dk_go 1 a_Mo_join_44 rfl
theorem a_Mo_join_46 : dk_at b_Mo_join 46 t_Mo_join_46 := dk_go 1 a_Mo_join_45 rfl
theorem a_Mo_join_47 : dk_at b_Mo_join 47 t_Mo_join_47 := dk_go 1 a_Mo_join_46 rfl
theorem a_Mo_join_48 : dk_at b_Mo_join 48 t_Mo_join_48 := dk_go 1 a_Mo_join_47 rfl
theorem a_Mo_join_51 : dk_at b_Mo_join 51 t_Mo_join_51 := dk_go 3 a_Mo_join_48 rfl
theorem a_Mo_join_52 : dk_at b_Mo_join 52 t_Mo_join_52 := dk_go 1 a_Mo_join_51 rfl
theorem a_Mo_join_53 : dk_at b_Mo_join 53 t_Mo_join_53 := dk_go 1 a_Mo_join_52 rfl
theorem a_Mo_join_54 : dk_at b_Mo_join 54 t_Mo_join_54 := dk_go 1 a_Mo_join_53 rfl
theorem a_Mo_join_55 : dk_at b_Mo_join 55 t_Mo_join_55 := dk_go 1 a_Mo_join_54 rfl
theorem a_Mo_join_56 : dk_at b_Mo_join 56 t_Mo_join_56 := dk_go 1 a_Mo_join_55 rfl
theorem a_Mo_join_57 : dk_at b_Mo_join 57 t_Mo_join_57 := dk_go 1 a_Mo_join_56 rfl
theorem a_Mo_join_60 : dk_at b_Mo_join 60 t_Mo_join_60 := dk_go 3 a_Mo_join_57 rfl
theorem a_Mo_join_61 : dk_at b_Mo_join 61 t_Mo_join_61 := dk_go 1 a_Mo_join_60 rfl
theorem a_Mo_join_64 : dk_at b_Mo_join 64 t_Mo_join_64 := dk_go 3 a_Mo_join_61 rfl
theorem a_Mo_join_65 : dk_at b_Mo_join 65 t_Mo_join_65 := dk_go 1 a_Mo_join_64 rfl
theorem a_Mo_join_66 : dk_at b_Mo_join 66 t_Mo_join_66 := dk_go 1 a_Mo_join_65 rfl
theorem a_Mo_join_69 : dk_at b_Mo_join 69 t_Mo_join_69 := dk_go 3 a_Mo_join_66 rfl
theorem a_Mo_join_70 : dk_at b_Mo_join 70 t_Mo_join_70 := dk_go 1 a_Mo_join_69 rfl
theorem a_Mo_join_73 : dk_at b_Mo_join 73 t_Mo_join_73 := dk_go 3 a_Mo_join_70 rfl
theorem a_Mo_join_74 : dk_at b_Mo_join 74 t_Mo_join_74 := dk_go 1 a_Mo_join_73 rfl
theorem a_Mo_join_75 : dk_at b_Mo_join 75 t_Mo_join_75 := dk_go 1 a_Mo_join_74 rfl
theorem a_Mo_join_76 : dk_at b_Mo_join 76 t_Mo_join_76 := dk_go 1 a_Mo_join_75 rfl
theorem a_Mo_join_77 : dk_at b_Mo_join 77 t_Mo_join_77 := dk_go 1 a_Mo_join_76 rfl
theorem a_Mo_join_78 : dk_at b_Mo_join 78 t_Mo_join_78 := dk_go 1 a_Mo_join_77 rfl
theorem a_Mo_join_79 : dk_at b_Mo_join 79 t_Mo_join_79 := dk_go 1 a_Mo_join_78 rfl
theorem a_Mo_join_80 : dk_at b_Mo_join 80 t_Mo_join_80 := dk_go 1 a_Mo_join_79 rfl
theorem a_Mo_join_81 : dk_at b_Mo_join 81 t_Mo_join_81 := dk_go 1 a_Mo_join_80 rfl
theorem a_Mo_join_82 : dk_at b_Mo_join 82 t_Mo_join_82 := dk_go 1 a_Mo_join_81 rfl
theorem a_Mo_join_85 : dk_at b_Mo_join 85 t_Mo_join_85 := dk_go 3 a_Mo_join_82 rfl
theorem a_Mo_join_86 : dk_at b_Mo_join 86 t_Mo_join_86 := dk_go 1 a_Mo_join_85 rfl
theorem a_Mo_join_87 : dk_at b_Mo_join 87 t_Mo_join_87 := dk_go 1 a_Mo_join_86 rfl
theorem a_Mo_join_88 : dk_at b_Mo_join 88 t_Mo_join_88 := dk_go 1 a_Mo_join_87 rfl
theorem a_Mo_join_89 : dk_at b_Mo_join 89 t_Mo_join_89 := dk_go 1 a_Mo_join_88 rfl
theorem a_Mo_join_90 : dk_at b_Mo_join 90 t_Mo_join_90 := dk_go 1 a_Mo_join_89 rfl
theorem a_Mo_join_91 : dk_at b_Mo_join 91 t_Mo_join_91 := dk_go 1 a_Mo_join_90 rfl
theorem a_Mo_join_92 : dk_at b_Mo_join 92 t_Mo_join_92 := dk_go 1 a_Mo_join_91 rfl
theorem a_Mo_join_93 : dk_at b_Mo_join 93 t_Mo_join_93 := dk_go 1 a_Mo_join_92 rfl
theorem a_Mo_join_94 : dk_at b_Mo_join 94 t_Mo_join_94 := dk_go 1 a_Mo_join_93 rfl
theorem a_Mo_join_96 : dk_at b_Mo_join 96 t_Mo_join_96 := dk_go 2 a_Mo_join_94 rfl
theorem a_Mo_join_98 : dk_at b_Mo_join 98 t_Mo_join_98 := dk_go 2 a_Mo_join_96 rfl
theorem a_Mo_join_99 : dk_at b_Mo_join 99 t_Mo_join_99 := dk_go 1 a_Mo_join_98 rfl
theorem a_Mo_join_100 : dk_at b_Mo_join 100 t_Mo_join_100 := dk_go 1 a_Mo_join_99 rfl
theorem a_Mo_join_103 : dk_at b_Mo_join 103 t_Mo_join_103 := dk_go 3 a_Mo_join_100 rfl
theorem a_Mo_join_104 : dk_at b_Mo_join 104 t_Mo_join_104 := dk_go 1 a_Mo_join_103 rfl
theorem a_Mo_join_107 : dk_at b_Mo_join 107 t_Mo_join_107 := dk_go 3 a_Mo_join_104 rfl
theorem a_Mo_join_108 : dk_at b_Mo_join 108 t_Mo_join_108 := dk_go 1 a_Mo_join_107 rfl
theorem a_Mo_join_111 : dk_at b_Mo_join 111 t_Mo_join_111 := dk_go 3 a_Mo_join_108 rfl
theorem a_Mo_join_112 : dk_at b_Mo_join 112 t_Mo_join_112 := dk_go 1 a_Mo_join_111 rfl
theorem a_Mo_join_115 : dk_at b_Mo_join 115 t_Mo_join_115 := dk_go 3 a_Mo_join_112 rfl
theorem a_Mo_join_116 : dk_at b_Mo_join 116 t_Mo_join_116 := dk_go 1 a_Mo_join_115 rfl
theorem a_Mo_join_117 : dk_at b_Mo_join 117 t_Mo_join_117 := dk_go 1 a_Mo_join_116 rfl
theorem a_Mo_join_120 : dk_at b_Mo_join 120 t_Mo_join_120 := dk_go 3 a_Mo_join_117 rfl
theorem a_Mo_join_121 : dk_at b_Mo_join 121 t_Mo_join_121 := dk_go 1 a_Mo_join_120 rfl
theorem a_Mo_join_124 : dk_at b_Mo_join 124 t_Mo_join_124 := dk_go 3 a_Mo_join_121 rfl
theorem a_Mo_join_126 : dk_at b_Mo_join 126 t_Mo_join_126 := dk_go 2 a_Mo_join_124 rfl
theorem a_Mo_join_127 : dk_at b_Mo_join 127 t_Mo_join_127 := dk_go 1 a_Mo_join_126 rfl
theorem a_Mo_join_128 : dk_at b_Mo_join 128 t_Mo_join_128 := dk_go 1 a_Mo_join_127 rfl
theorem a_Mo_join_131 : dk_at b_Mo_join 131 t_Mo_join_131 := dk_go 3 a_Mo_join_128 rfl
theorem a_Mo_join_133 : dk_at b_Mo_join 133 t_Mo_join_133 := dk_go 2 a_Mo_join_131 rfl
theorem a_Mo_join_134 : dk_at b_Mo_join 134 t_Mo_join_134 := dk_go 1 a_Mo_join_133 rfl
theorem a_Mo_join_137 : dk_at b_Mo_join 137 t_Mo_join_137 := dk_go 3 a_Mo_join_134 rfl
theorem a_Mo_join_138 : dk_at b_Mo_join 138 t_Mo_join_138 := dk_go 1 a_Mo_join_137 rfl
theorem a_Mo_join_141 : dk_at b_Mo_join 141 t_Mo_join_141 := dk_go 3 a_Mo_join_138 rfl
theorem a_Mo_join_142 : dk_at b_Mo_join 142 t_Mo_join_142 := dk_go 1 a_Mo_join_141 rfl
theorem a_Mo_join_143 : dk_at b_Mo_join 143 t_Mo_join_143 := dk_go 1 a_Mo_join_142 rfl
theorem a_Mo_join_144 : dk_at b_Mo_join 144 t_Mo_join_144 := dk_go 1 a_Mo_join_143 rfl
theorem a_Mo_join_147 : dk_at b_Mo_join 147 t_Mo_join_147 := dk_go 3 a_Mo_join_144 rfl
theorem a_Mo_join_148 : dk_at b_Mo_join 148 t_Mo_join_148 := dk_go 1 a_Mo_join_147 rfl
theorem a_Mo_join_151 : dk_at b_Mo_join 151 t_Mo_join_151 := dk_go 3 a_Mo_join_148 rfl
theorem a_Mo_join_152 : dk_at b_Mo_join 152 t_Mo_join_152 := dk_go 1 a_Mo_join_151 rfl
theorem a_Mo_join_153 : dk_at b_Mo_join 153 t_Mo_join_153 := dk_go 1 a_Mo_join_152 rfl
theorem a_Mo_join_156 : dk_at b_Mo_join 156 t_Mo_join_156 := dk_go 3 a_Mo_join_153 rfl
theorem a_Mo_join_159 : dk_at b_Mo_join 159 t_Mo_join_159 := dk_go 3 a_Mo_join_156 rfl
theorem a_Mo_join_160 : dk_at b_Mo_join 160 t_Mo_join_160 := dk_go 1 a_Mo_join_159 rfl
theorem a_Mo_join_163 : dk_at b_Mo_join 163 t_Mo_join_163 := dk_go 3 a_Mo_join_160 rfl
theorem a_Mo_join_164 : dk_at b_Mo_join 164 t_Mo_join_164 := dk_go 1 a_Mo_join_163 rfl
theorem a_Mo_join_165 : dk_at b_Mo_join 165 t_Mo_join_165 := dk_go 1 a_Mo_join_164 rfl
theorem a_Mo_join_166 : dk_at b_Mo_join 166 t_Mo_join_166 := dk_go 1 a_Mo_join_165 rfl
theorem a_Mo_join_167 : dk_at b_Mo_join 167 t_Mo_join_167 := dk_go 1 a_Mo_join_166 rfl
theorem a_Mo_join_168 : dk_at b_Mo_join 168 t_Mo_join_168 := dk_go 1 a_Mo_join_167 rfl
theorem a_Mo_join_171 : dk_at b_Mo_join 171 t_Mo_join_171 := dk_go 3 a_Mo_join_168 rfl
theorem a_Mo_join_172 : dk_at b_Mo_join 172 t_Mo_join_172 := dk_go 1 a_Mo_join_171 rfl
theorem a_Mo_join_173 : dk_at b_Mo_join 173 t_Mo_join_173 := dk_go 1 a_Mo_join_172 rfl
theorem a_Mo_join_174 : dk_at b_Mo_join 174 t_Mo_join_174 := dk_go 1 a_Mo_join_173 rfl
theorem a_Mo_join_177 : dk_at b_Mo_join 177 t_Mo_join_177 := dk_go 3 a_Mo_join_174 rfl
theorem a_Mo_join_178 : dk_at b_Mo_join 178 t_Mo_join_178 := dk_go 1 a_Mo_join_177 rfl
theorem a_Mo_join_179 : dk_at b_Mo_join 179 t_Mo_join_179 := dk_go 1 a_Mo_join_178 rfl
theorem a_Mo_join_180 : dk_at b_Mo_join 180 t_Mo_join_180 := dk_go 1 a_Mo_join_179 rfl
theorem a_Mo_join_183 : dk_at b_Mo_join 183 t_Mo_join_183 := dk_go 3 a_Mo_join_180 rfl
theorem a_Mo_join_185 : dk_at b_Mo_join 185 t_Mo_join_185 := dk_go 2 a_Mo_join_183 rfl
theorem a_Mo_join_186 : dk_at b_Mo_join 186 t_Mo_join_186 := dk_go 1 a_Mo_join_185 rfl
theorem a_Mo_join_189 : dk_at b_Mo_join 189 t_Mo_join_189 := dk_go 3 a_Mo_join_186 rfl
theorem a_Mo_join_192 : dk_at b_Mo_join 192 t_Mo_join_192 := dk_go 3 a_Mo_join_189 rfl
theorem a_Mo_join_193 : dk_at b_Mo_join 193 t_Mo_join_193 := dk_go 1 a_Mo_join_192 rfl
theorem a_Mo_join_196 : dk_at b_Mo_join 196 t_Mo_join_196 := dk_go 3 a_Mo_join_193 rfl
theorem a_Mo_join_197 : dk_at b_Mo_join 197 t_Mo_join_197 := dk_go 1 a_Mo_join_196 rfl
theorem a_Mo_join_199 : dk_at b_Mo_join 199 t_Mo_join_199 := dk_go 2 a_Mo_join_197 rfl
theorem a_Mo_join_201 : dk_at b_Mo_join 201 t_Mo_join_201 := dk_go 2 a_Mo_join_199 rfl
theorem a_Mo_join_204 : dk_at b_Mo_join 204 t_Mo_join_204 := dk_go 3 a_Mo_join_201 rfl
theorem a_Mo_join_205 : dk_at b_Mo_join 205 t_Mo_join_205 := dk_go 1 a_Mo_join_204 rfl
theorem a_Mo_join_208 : dk_at b_Mo_join 208 t_Mo_join_208 := dk_go 3 a_Mo_join_205 rfl
theorem a_Mo_join_209 : dk_at b_Mo_join 209 t_Mo_join_209 := dk_go 1 a_Mo_join_208 rfl
theorem a_Mo_join_210 : dk_at b_Mo_join 210 t_Mo_join_210 := dk_go 1 a_Mo_join_209 rfl
theorem a_Mo_join_211 : dk_at b_Mo_join 211 t_Mo_join_211 := dk_go 1 a_Mo_join_210 rfl
theorem a_Mo_join_212 : dk_at b_Mo_join 212 t_Mo_join_212 := dk_go 1 a_Mo_join_211 rfl
theorem a_Mo_join_213 : dk_at b_Mo_join 213 t_Mo_join_213 := dk_go 1 a_Mo_join_212 rfl
theorem a_Mo_join_216 : dk_at b_Mo_join 216 t_Mo_join_216 := dk_go 3 a_Mo_join_213 rfl
theorem a_Mo_join_218 : dk_at b_Mo_join 218 t_Mo_join_218 := dk_go 2 a_Mo_join_216 rfl
theorem a_Mo_join_219 : dk_at b_Mo_join 219 t_Mo_join_219 := dk_go 1 a_Mo_join_218 rfl
theorem a_Mo_join_220 : dk_at b_Mo_join 220 t_Mo_join_220 := dk_go 1 a_Mo_join_219 rfl
theorem a_Mo_join_221 : dk_at b_Mo_join 221 t_Mo_join_221 := dk_go 1 a_Mo_join_220 rfl
theorem a_Mo_join_222 : dk_at b_Mo_join 222 t_Mo_join_222 := dk_go 1 a_Mo_join_221 rfl
theorem a_Mo_join_223 : dk_at b_Mo_join 223 t_Mo_join_223 := dk_go 1 a_Mo_join_222 rfl
theorem a_Mo_join_224 : dk_at b_Mo_join 224 t_Mo_join_224 := dk_go 1 a_Mo_join_223 rfl
theorem a_Mo_join_227 : dk_at b_Mo_join 227 t_Mo_join_227 := dk_go 3 a_Mo_join_224 rfl
theorem a_Mo_join_230 : dk_at b_Mo_join 230 t_Mo_join_230 := dk_go 3 a_Mo_join_227 rfl
theorem a_Mo_join_233 : dk_at b_Mo_join 233 t_Mo_join_233 := dk_go 3 a_Mo_join_230 rfl
theorem a_Mo_join_236 : dk_at b_Mo_join 236 t_Mo_join_236 := dk_go 3 a_Mo_join_233 rfl
theorem d_Mo_join_0 : decode b_Mo_join 0 = .ok (.iconst 0, 1) := dk_0 a_Mo_join_0 (dko_3 _)
theorem d_Mo_join_1 : decode b_Mo_join 1 = .ok (.istore_n 1, 1) := dk_0 a_Mo_join_1 (dko_60 _)
theorem d_Mo_join_2 : decode b_Mo_join 2 = .ok (.iload_n 1, 1) := dk_0 a_Mo_join_2 (dko_27 _)
theorem d_Mo_join_3 : decode b_Mo_join 3 = .ok (.aload_n 0, 1) := dk_0 a_Mo_join_3 (dko_42 _)
theorem d_Mo_join_4 : decode b_Mo_join 4 = .ok (.getfield 278, 3) := dk_U2 a_Mo_join_4 (dko_180 _) rfl
theorem d_Mo_join_7 : decode b_Mo_join 7 = .ok (.aload_n 0, 1) := dk_0 a_Mo_join_7 (dko_42 _)
theorem d_Mo_join_8 : decode b_Mo_join 8 = .ok (.getfield 281, 3) := dk_U2 a_Mo_join_8 (dko_180 _) rfl
theorem d_Mo_join_11 : decode b_Mo_join 11 = .ok (.iadd, 1) := dk_0 a_Mo_join_11 (dko_96 _)
theorem d_Mo_join_12 : decode b_Mo_join 12 = .ok (.if_icmp .ge 16, 3) := dk_S2 a_Mo_join_12 (dko_162 _) (by decide +kernel)
theorem d_Mo_join_15 : decode b_Mo_join 15 = .ok (.aload_n 0, 1) := dk_0 a_Mo_join_15 (dko_42 _)
theorem d_Mo_join_16 : decode b_Mo_join 16 = .ok (.getfield 125, 3) := dk_U2 a_Mo_join_16 (dko_180 _) rfl
theorem d_Mo_join_19 : decode b_Mo_join 19 = .ok (.iload_n 1, 1) := dk_0 a_Mo_join_19 (dko_27 _)
theorem d_Mo_join_20 : decode b_Mo_join 20 = .ok (.lconst 0, 1) := dk_0 a_Mo_join_20 (dko_9 _)
theorem d_Mo_join_21 : decode b_Mo_join 21 = .ok (.lastore, 1) := dk_0 a_Mo_join_21 (dko_80 _)
theorem d_Mo_join_22 : decode b_Mo_join 22 = .ok (.iinc 1 1, 3) := dk_US a_Mo_join_22 (dko_132 _) (by decide +kernel)
theorem d_Mo_join_25 : decode b_Mo_join 25 = .ok (.goto (-23), 3) := dk_S2 a_Mo_join_25 (dko_167 _) (by decide +kernel)
theorem d_Mo_join_28 : decode b_Mo_join 28 = .ok (.iconst 0, 1) := dk_0 a_Mo_join_28 (dko_3 _)
theorem d_Mo_join_29 : decode b_Mo_join 29 = .ok (.istore_n 1, 1) := dk_0 a_Mo_join_29 (dko_60 _)
theorem d_Mo_join_30 : decode b_Mo_join 30 = .ok (.iload_n 1, 1) := dk_0 a_Mo_join_30 (dko_27 _)
theorem d_Mo_join_31 : decode b_Mo_join 31 = .ok (.iconst 2, 1) := dk_0 a_Mo_join_31 (dko_5 _)
theorem d_Mo_join_32 : decode b_Mo_join 32 = .ok (.aload_n 0, 1) := dk_0 a_Mo_join_32 (dko_42 _)
theorem d_Mo_join_33 : decode b_Mo_join 33 = .ok (.getfield 281, 3) := dk_U2 a_Mo_join_33 (dko_180 _) rfl
theorem d_Mo_join_36 : decode b_Mo_join 36 = .ok (.imul, 1) := dk_0 a_Mo_join_36 (dko_104 _)
theorem d_Mo_join_37 : decode b_Mo_join 37 = .ok (.if_icmp .ge 199, 3) := dk_S2 a_Mo_join_37 (dko_162 _) (by decide +kernel)
theorem d_Mo_join_40 : decode b_Mo_join 40 = .ok (.aload_n 0, 1) := dk_0 a_Mo_join_40 (dko_42 _)
theorem d_Mo_join_41 : decode b_Mo_join 41 = .ok (.getfield 49, 3) := dk_U2 a_Mo_join_41 (dko_180 _) rfl
theorem d_Mo_join_44 : decode b_Mo_join 44 = .ok (.iload_n 1, 1) := dk_0 a_Mo_join_44 (dko_27 _)
theorem d_Mo_join_45 : decode b_Mo_join 45 = .ok (.iaload, 1) := dk_0 a_Mo_join_45 (dko_46 _)
theorem d_Mo_join_46 : decode b_Mo_join 46 = .ok (.istore_n 2, 1) := dk_0 a_Mo_join_46 (dko_61 _)
theorem d_Mo_join_47 : decode b_Mo_join 47 = .ok (.aload_n 0, 1) := dk_0 a_Mo_join_47 (dko_42 _)
theorem d_Mo_join_48 : decode b_Mo_join 48 = .ok (.getfield 278, 3) := dk_U2 a_Mo_join_48 (dko_180 _) rfl
theorem d_Mo_join_51 : decode b_Mo_join 51 = .ok (.iload_n 1, 1) := dk_0 a_Mo_join_51 (dko_27 _)
theorem d_Mo_join_52 : decode b_Mo_join 52 = .ok (.iconst 2, 1) := dk_0 a_Mo_join_52 (dko_5 _)
theorem d_Mo_join_53 : decode b_Mo_join 53 = .ok (.idiv, 1) := dk_0 a_Mo_join_53 (dko_108 _)
theorem d_Mo_join_54 : decode b_Mo_join 54 = .ok (.iadd, 1) := dk_0 a_Mo_join_54 (dko_96 _)
theorem d_Mo_join_55 : decode b_Mo_join 55 = .ok (.istore_n 3, 1) := dk_0 a_Mo_join_55 (dko_62 _)
theorem d_Mo_join_56 : decode b_Mo_join 56 = .ok (.iload_n 2, 1) := dk_0 a_Mo_join_56 (dko_28 _)
theorem d_Mo_join_57 : decode b_Mo_join 57 = .ok (.ifCond .lt 36, 3) := dk_S2 a_Mo_join_57 (dko_155 _) (by decide +kernel)
theorem d_Mo_join_60 : decode b_Mo_join 60 = .ok (.aload_n 0, 1) := dk_0 a_Mo_join_60 (dko_42 _)
theorem d_Mo_join_61 : decode b_Mo_join 61 = .ok (.getfield 27, 3) := dk_U2 a_Mo_join_61 (dko_180 _) rfl
theorem d_Mo_join_64 : decode b_Mo_join 64 = .ok (.iload_n 2, 1) := dk_0 a_Mo_join_64 (dko_28 _)
theorem d_Mo_join_65 : decode b_Mo_join 65 = .ok (.iaload, 1) := dk_0 a_Mo_join_65 (dko_46 _)
theorem d_Mo_join_66 : decode b_Mo_join 66 = .ok (.ifCond .ne 27, 3) := dk_S2 a_Mo_join_66 (dko_154 _) (by decide +kernel)
theorem d_Mo_join_69 : decode b_Mo_join 69 = .ok (.aload_n 0, 1) := dk_0 a_Mo_join_69 (dko_42 _)
theorem d_Mo_join_70 : decode b_Mo_join 70 = .ok (.getfield 125, 3) := dk_U2 a_Mo_join_70 (dko_180 _) rfl
theorem d_Mo_join_73 : decode b_Mo_join 73 = .ok (.iload_n 3, 1) := dk_0 a_Mo_join_73 (dko_29 _)
theorem d_Mo_join_74 : decode b_Mo_join 74 = .ok (.dup2, 1) := dk_0 a_Mo_join_74 (dko_92 _)
theorem d_Mo_join_75 : decode b_Mo_join 75 = .ok (.laload, 1) := dk_0 a_Mo_join_75 (dko_47 _)
theorem d_Mo_join_76 : decode b_Mo_join 76 = .ok (.lconst 1, 1) := dk_0 a_Mo_join_76 (dko_10 _)
theorem d_Mo_join_77 : decode b_Mo_join 77 = .ok (.iload_n 2, 1) := dk_0 a_Mo_join_77 (dko_28 _)
theorem d_Mo_join_78 : decode b_Mo_join 78 = .ok (.lshl, 1) := dk_0 a_Mo_join_78 (dko_121 _)
theorem d_Mo_join_79 : decode b_Mo_join 79 = .ok (.lor, 1) := dk_0 a_Mo_join_79 (dko_129 _)
theorem d_Mo_join_80 : decode b_Mo_join 80 = .ok (.lastore, 1) := dk_0 a_Mo_join_80 (dko_80 _)
theorem d_Mo_join_81 : decode b_Mo_join 81 = .ok (.aload_n 0, 1) := dk_0 a_Mo_join_81 (dko_42 _)
theorem d_Mo_join_82 : decode b_Mo_join 82 = .ok (.getfield 125, 3) := dk_U2 a_Mo_join_82 (dko_180 _) rfl
theorem d_Mo_join_85 : decode b_Mo_join 85 = .ok (.iload_n 2, 1) := dk_0 a_Mo_join_85 (dko_28 _)
theorem d_Mo_join_86 : decode b_Mo_join 86 = .ok (.dup2, 1) := dk_0 a_Mo_join_86 (dko_92 _)
theorem d_Mo_join_87 : decode b_Mo_join 87 = .ok (.laload, 1) := dk_0 a_Mo_join_87 (dko_47 _)
theorem d_Mo_join_88 : decode b_Mo_join 88 = .ok (.lconst 1, 1) := dk_0 a_Mo_join_88 (dko_10 _)
theorem d_Mo_join_89 : decode b_Mo_join 89 = .ok (.iload_n 3, 1) := dk_0 a_Mo_join_89 (dko_29 _)
theorem d_Mo_join_90 : decode b_Mo_join 90 = .ok (.lshl, 1) := dk_0 a_Mo_join_90 (dko_121 _)
theorem d_Mo_join_91 : decode b_Mo_join 91 = .ok (.lor, 1) := dk_0 a_Mo_join_91 (dko_129 _)
theorem d_Mo_join_92 : decode b_Mo_join 92 = .ok (.lastore, 1) := dk_0 a_Mo_join_92 (dko_80 _)
theorem d_Mo_join_93 : decode b_Mo_join 93 = .ok (.iconst 0, 1) := dk_0 a_Mo_join_93 (dko_3 _)
theorem d_Mo_join_94 : decode b_Mo_join 94 = .ok (.istore 4, 2) := dk_U1 a_Mo_join_94 (dko_54 _) rfl
theorem d_Mo_join_96 : decode b_Mo_join 96 = .ok (.iload 4, 2) := dk_U1 a_Mo_join_96 (dko_21 _) rfl
theorem d_Mo_join_98 : decode b_Mo_join 98 = .ok (.iconst 2, 1) := dk_0 a_Mo_join_98 (dko_5 _)
theorem d_Mo_join_99 : decode b_Mo_join 99 = .ok (.aload_n 0, 1) := dk_0 a_Mo_join_99 (dko_42 _)
theorem d_Mo_join_100 : decode b_Mo_join 100 = .ok (.getfield 281, 3) := dk_U2 a_Mo_join_100 (dko_180 _) rfl
theorem d_Mo_join_103 : decode b_Mo_join 103 = .ok (.imul, 1) := dk_0 a_Mo_join_103 (dko_104 _)
theorem d_Mo_join_104 : decode b_Mo_join 104 = .ok (.if_icmp .ge 126, 3) := dk_S2 a_Mo_join_104 (dko_162 _) (by decide +kernel)
theorem d_Mo_join_107 : decode b_Mo_join 107 = .ok (.iload_n 2, 1) := dk_0 a_Mo_join_107 (dko_28 _)
theorem d_Mo_join_108 : decode b_Mo_join 108 = .ok (.ifCond .lt 122, 3) := dk_S2 a_Mo_join_108 (dko_155 _) (by decide +kernel)
theorem d_Mo_join_111 : decode b_Mo_join 111 = .ok (.aload_n 0, 1) := dk_0 a_Mo_join_111 (dko_42 _)
theorem d_Mo_join_112 : decode b_Mo_join 112 = .ok (.getfield 27, 3) := dk_U2 a_Mo_join_112 (dko_180 _) rfl
theorem d_Mo_join_115 : decode b_Mo_join 115 = .ok (.iload_n 2, 1) := dk_0 a_Mo_join_115 (dko_28 _)
theorem d_Mo_join_116 : decode b_Mo_join 116 = .ok (.iaload, 1) := dk_0 a_Mo_join_116 (dko_46 _)
theorem d_Mo_join_117 : decode b_Mo_join 117 = .ok (.ifCond .eq 113, 3) := dk_S2 a_Mo_join_117 (dko_153 _) (by decide +kernel)
theorem d_Mo_join_120 : decode b_Mo_join 120 = .ok (.aload_n 0, 1) := dk_0 a_Mo_join_120 (dko_42 _)
theorem d_Mo_join_121 : decode b_Mo_join 121 = .ok (.getfield 49, 3) := dk_U2 a_Mo_join_121 (dko_180 _) rfl
theorem d_Mo_join_124 : decode b_Mo_join 124 = .ok (.iload 4, 2) := dk_U1 a_Mo_join_124 (dko_21 _) rfl
theorem d_Mo_join_126 : decode b_Mo_join 126 = .ok (.iaload, 1) := dk_0 a_Mo_join_126 (dko_46 _)
theorem d_Mo_join_127 : decode b_Mo_join 127 = .ok (.iload_n 2, 1) := dk_0 a_Mo_join_127 (dko_28 _)
theorem d_Mo_join_128 : decode b_Mo_join 128 = .ok (.if_icmp .ne 68, 3) := dk_S2 a_Mo_join_128 (dko_160 _) (by decide +kernel)
theorem d_Mo_join_131 : decode b_Mo_join 131 = .ok (.iload 4, 2) := dk_U1 a_Mo_join_131 (dko_21 _) rfl
theorem d_Mo_join_133 : decode b_Mo_join 133 = .ok (.iload_n 1, 1) := dk_0 a_Mo_join_133 (dko_27 _)
theorem d_Mo_join_134 : decode b_Mo_join 134 = .ok (.if_icmp .eq 62, 3) := dk_S2 a_Mo_join_134 (dko_159 _) (by decide +kernel)
theorem d_Mo_join_137 : decode b_Mo_join 137 = .ok (.aload_n 0, 1) := dk_0 a_Mo_join_137 (dko_42 _)
theorem d_Mo_join_138 : decode b_Mo_join 138 = .ok (.getfield 27, 3) := dk_U2 a_Mo_join_138 (dko_180 _) rfl
theorem d_Mo_join_141 : decode b_Mo_join 141 = .ok (.iload_n 2, 1) := dk_0 a_Mo_join_141 (dko_28 _)
theorem d_Mo_join_142 : decode b_Mo_join 142 = .ok (.iaload, 1) := dk_0 a_Mo_join_142 (dko_46 _)
theorem d_Mo_join_143 : decode b_Mo_join 143 = .ok (.iconst 1, 1) := dk_0 a_Mo_join_143 (dko_4 _)
theorem d_Mo_join_144 : decode b_Mo_join 144 = .ok (.if_icmp .ne 15, 3) := dk_S2 a_Mo_join_144 (dko_160 _) (by decide +kernel)
theorem d_Mo_join_147 : decode b_Mo_join 147 = .ok (.aload_n 0, 1) := dk_0 a_Mo_join_147 (dko_42 _)
theorem d_Mo_join_148 : decode b_Mo_join 148 = .ok (.getfield 52, 3) := dk_U2 a_Mo_join_148 (dko_180 _) rfl
theorem d_Mo_join_151 : decode b_Mo_join 151 = .ok (.iload_n 1, 1) := dk_0 a_Mo_join_151 (dko_27 _)
theorem d_Mo_join_152 : decode b_Mo_join 152 = .ok (.iaload, 1) := dk_0 a_Mo_join_152 (dko_46 _)
theorem d_Mo_join_153 : decode b_Mo_join 153 = .ok (.ifCond .ne 43, 3) := dk_S2 a_Mo_join_153 (dko_154 _) (by decide +kernel)
theorem d_Mo_join_156 : decode b_Mo_join 156 = .ok (.goto 36, 3) := dk_S2 a_Mo_join_156 (dko_167 _) (by decide +kernel)
theorem d_Mo_join_159 : decode b_Mo_join 159 = .ok (.aload_n 0, 1) := dk_0 a_Mo_join_159 (dko_42 _)
theorem d_Mo_join_160 : decode b_Mo_join 160 = .ok (.getfield 27, 3) := dk_U2 a_Mo_join_160 (dko_180 _) rfl
theorem d_Mo_join_163 : decode b_Mo_join 163 = .ok (.iload_n 2, 1) := dk_0 a_Mo_join_163 (dko_28 _)
theorem d_Mo_join_164 : decode b_Mo_join 164 = .ok (.iaload, 1) := dk_0 a_Mo_join_164 (dko_46 _)
theorem d_Mo_join_165 : decode b_Mo_join 165 = .ok (.iconst 2, 1) := dk_0 a_Mo_join_165 (dko_5 _)
theorem d_Mo_join_166 : decode b_Mo_join 166 = .ok (.isub, 1) := dk_0 a_Mo_join_166 (dko_100 _)
theorem d_Mo_join_167 : decode b_Mo_join 167 = .ok (.aload_n 0, 1) := dk_0 a_Mo_join_167 (dko_42 _)
theorem d_Mo_join_168 : decode b_Mo_join 168 = .ok (.getfield 40, 3) := dk_U2 a_Mo_join_168 (dko_180 _) rfl
theorem d_Mo_join_171 : decode b_Mo_join 171 = .ok (.iload_n 2, 1) := dk_0 a_Mo_join_171 (dko_28 _)
theorem d_Mo_join_172 : decode b_Mo_join 172 = .ok (.iaload, 1) := dk_0 a_Mo_join_172 (dko_46 _)
theorem d_Mo_join_173 : decode b_Mo_join 173 = .ok (.aload_n 0, 1) := dk_0 a_Mo_join_173 (dko_42 _)
theorem d_Mo_join_174 : decode b_Mo_join 174 = .ok (.getfield 52, 3) := dk_U2 a_Mo_join_174 (dko_180 _) rfl
theorem d_Mo_join_177 : decode b_Mo_join 177 = .ok (.iload_n 1, 1) := dk_0 a_Mo_join_177 (dko_27 _)
theorem d_Mo_join_178 : decode b_Mo_join 178 = .ok (.iaload, 1) := dk_0 a_Mo_join_178 (dko_46 _)
theorem d_Mo_join_179 : decode b_Mo_join 179 = .ok (.aload_n 0, 1) := dk_0 a_Mo_join_179 (dko_42 _)
theorem d_Mo_join_180 : decode b_Mo_join 180 = .ok (.getfield 52, 3) := dk_U2 a_Mo_join_180 (dko_180 _) rfl
theorem d_Mo_join_183 : decode b_Mo_join 183 = .ok (.iload 4, 2) := dk_U1 a_Mo_join_183 (dko_21 _) rfl
theorem d_Mo_join_185 : decode b_Mo_join 185 = .ok (.iaload, 1) := dk_0 a_Mo_join_185 (dko_46 _)
theorem d_Mo_join_186 : decode b_Mo_join 186 = .ok (.invokestatic 332, 3) := dk_U2 a_Mo_join_186 (dko_184 _) rfl
theorem d_Mo_join_189 : decode b_Mo_join 189 = .ok (.ifCond .eq 7, 3) := dk_S2 a_Mo_join_189 (dko_153 _) (by decide +kernel)
theorem d_Mo_join_192 : decode b_Mo_join 192 = .ok (.iconst 1, 1) := dk_0 a_Mo_join_192 (dko_4 _)
theorem d_Mo_join_193 : decode b_Mo_join 193 = .ok (.goto 4, 3) := dk_S2 a_Mo_join_193 (dko_167 _) (by decide +kernel)
theorem d_Mo_join_196 : decode b_Mo_join 196 = .ok (.iconst 0, 1) := dk_0 a_Mo_join_196 (dko_3 _)
theorem d_Mo_join_197 : decode b_Mo_join 197 = .ok (.istore 5, 2) := dk_U1 a_Mo_join_197 (dko_54 _) rfl
theorem d_Mo_join_199 : decode b_Mo_join 199 = .ok (.iload 5, 2) := dk_U1 a_Mo_join_199 (dko_21 _) rfl
theorem d_Mo_join_201 : decode b_Mo_join 201 = .ok (.ifCond .eq 23, 3) := dk_S2 a_Mo_join_201 (dko_153 _) (by decide +kernel)
theorem d_Mo_join_204 : decode b_Mo_join 204 = .ok (.aload_n 0, 1) := dk_0 a_Mo_join_204 (dko_42 _)
theorem d_Mo_join_205 : decode b_Mo_join 205 = .ok (.getfield 125, 3) := dk_U2 a_Mo_join_205 (dko_180 _) rfl
theorem d_Mo_join_208 : decode b_Mo_join 208 = .ok (.iload_n 3, 1) := dk_0 a_Mo_join_208 (dko_29 _)
theorem d_Mo_join_209 : decode b_Mo_join 209 = .ok (.dup2, 1) := dk_0 a_Mo_join_209 (dko_92 _)
theorem d_Mo_join_210 : decode b_Mo_join 210 = .ok (.laload, 1) := dk_0 a_Mo_join_210 (dko_47 _)
theorem d_Mo_join_211 : decode b_Mo_join 211 = .ok (.lconst 1, 1) := dk_0 a_Mo_join_211 (dko_10 _)
theorem d_Mo_join_212 : decode b_Mo_join 212 = .ok (.aload_n 0, 1) := dk_0 a_Mo_join_212 (dko_42 _)
theorem d_Mo_join_213 : decode b_Mo_join 213 = .ok (.getfield 278, 3) := dk_U2 a_Mo_join_213 (dko_180 _) rfl
theorem d_Mo_join_216 : decode b_Mo_join 216 = .ok (.iload 4, 2) := dk_U1 a_Mo_join_216 (dko_21 _) rfl
theorem d_Mo_join_218 : decode b_Mo_join 218 = .ok (.iconst 2, 1) := dk_0 a_Mo_join_218 (dko_5 _)
theorem d_Mo_join_219 : decode b_Mo_join 219 = .ok (.idiv, 1) := dk_0 a_Mo_join_219 (dko_108 _)
theorem d_Mo_join_220 : decode b_Mo_join 220 = .ok (.iadd, 1) := dk_0 a_Mo_join_220 (dko_96 _)
theorem d_Mo_join_221 : decode b_Mo_join 221 = .ok (.lshl, 1) := dk_0 a_Mo_join_221 (dko_121 _)
theorem d_Mo_join_222 : decode b_Mo_join 222 = .ok (.lor, 1) := dk_0 a_Mo_join_222 (dko_129 _)
theorem d_Mo_join_223 : decode b_Mo_join 223 = .ok (.lastore, 1) := dk_0 a_Mo_join_223 (dko_80 _)
theorem d_Mo_join_224 : decode b_Mo_join 224 = .ok (.iinc 4 1, 3) := dk_US a_Mo_join_224 (dko_132 _) (by decide +kernel)
theorem d_Mo_join_227 : decode b_Mo_join 227 = .ok (.goto (-131), 3) := dk_S2 a_Mo_join_227 (dko_167 _) (by decide +kernel)
theorem d_Mo_join_230 : decode b_Mo_join 230 = .ok (.iinc 1 1, 3) := dk_US a_Mo_join_230 (dko_132 _) (by decide +kernel)
theorem d_Mo_join_233 : decode b_Mo_join 233 = .ok (.goto (-203), 3) := dk_S2 a_Mo_join_233 (dko_167 _) (by decide +kernel)
theorem d_Mo_join_236 : decode b_Mo_join 236 = .ok (.return_, 1) := dk_0 a_Mo_join_236 (dko_177 _)
set_option maxHeartbeats 4000000 in
set_option maxRecDepth 100000 in
theorem ok_Mo_join (pc : Nat) : OpS mt mi_Mo_join pc (cs_Mo_join pc) := (os_n (os_n (os_n (os_n (os_n (os_n (os_n (os_l (so_iconst d_Mo_join_0 (by decide))) (os_l (so_istore_n d_Mo_join_1 rfl (by decide)))) (os_n (os_l (so_iload_n d_Mo_join_2 rfl)) (os_l (so_aload_n d_Mo_join_3 rfl)))) (os_n (os_n (os_l (so_get (C := R_Mo) (T := F_Mo) (N := 87) (j := 4) in_Mo rfl (by decide) mw_1798 d_Mo_join_4)) (os_l (so_aload_n d_Mo_join_7 rfl))) (os_n (os_l (so_get (C := R_Mo) (T := F_Mo) (N := 87) (j := 11) in_Mo rfl (by decide) mw_1805 d_Mo_join_8)) (os_n (os_l (so_iadd d_Mo_join_11)) (os_l (so_icge d_Mo_join_12 (by decide))))))) (os_n (os_n (os_n (os_l (so_aload_n d_Mo_join_15 rfl)) (os_l (so_get (C := R_Mo) (T := F_Mo) (N := 87) (j := 43) in_Mo rfl (by decide) mw_1837 d_Mo_join_16))) (os_n (os_l (so_iload_n d_Mo_join_19 rfl)) (os_l (so_lconst d_Mo_join_20 (by decide))))) (os_n (os_n (os_l (so_lastore d_Mo_join_21)) (os_l (so_iinc d_Mo_join_22 (by decide) (by decide)))) (os_n (os_l (so_goto d_Mo_join_25 (by decide))) (os_n (os_l (so_iconst d_Mo_join_28 (by decide))) (os_l (so_istore_n d_Mo_join_29 rfl (by decide)))))))) (os_n (os_n (os_n (os_n (os_l (so_iload_n d_Mo_join_30 rfl)) (os_l (so_iconst d_Mo_join_31 (by decide)))) (os_n (os_l (so_aload_n d_Mo_join_32 rfl)) (os_l (so_get (C := R_Mo) (T := F_Mo) (N := 87) (j := 11) in_Mo rfl (by decide) mw_1805 d_Mo_join_33)))) (os_n (os_n (os_l (so_imul d_Mo_join_36)) (os_l (so_icge d_Mo_join_37 (by decide)))) (os_n (os_l (so_aload_n d_Mo_join_40 rfl)) (os_n (os_l (so_get (C := R_Mo) (T := F_Mo) (N := 87) (j := 13) in_Mo rfl (by decide) mw_1807 d_Mo_join_41)) (os_l (so_iload_n d_Mo_join_44 rfl)))))) (os_n (os_n (os_n (os_l (so_iaload d_Mo_join_45)) (os_l (so_istore_n d_Mo_join_46 rfl (by decide)))) (os_n (os_l (so_aload_n d_Mo_join_47 rfl)) (os_l (so_get (C := R_Mo) (T := F_Mo) (N := 87) (j := 4) in_Mo rfl (by decide) mw_1798 d_Mo_join_48)))) (os_n (os_n (os_l (so_iload_n d_Mo_join_51 rfl)) (os_l (so_iconst d_Mo_join_52 (by decide)))) (os_n (os_l (so_idiv d_Mo_join_53)) (os_n (os_l (so_iadd d_Mo_join_54)) (os_l (so_istore_n d_Mo_join_55 rfl (by decide))))))))) (os_n (os_n (os_n (os_n (os_n (os_l (so_iload_n d_Mo_join_56 rfl)) (os_l (so_iflt d_Mo_join_57 (by decide)))) (os_n (os_l (so_aload_n d_Mo_join_60 rfl)) (os_l (so_get (C := R_Mo) (T := F_Mo) (N := 87) (j := 5) in_Mo rfl (by decide) mw_1799 d_Mo_join_61)))) (os_n (os_n (os_l (so_iload_n d_Mo_join_64 rfl)) (os_l (so_iaload d_Mo_join_65))) (os_n (os_l (so_ifne d_Mo_join_66 (by decide))) (os_n (os_l (so_aload_n d_Mo_join_69 rfl)) (os_l (so_get (C := R_Mo) (T := F_Mo) (N := 87) (j := 43) in_Mo rfl (by decide) mw_1837 d_Mo_join_70)))))) (os_n (os_n (os_n (os_l (so_iload_n d_Mo_join_73 rfl)) (os_l (so_dup2 d_Mo_join_74))) (os_n (os_l (so_laload d_Mo_join_75)) (os_l (so_lconst d_Mo_join_76 (by decide))))) (os_n (os_n (os_l (so_iload_n d_Mo_join_77 rfl)) (os_l (so_lshl d_Mo_join_78))) (os_n (os_l (so_lor d_Mo_join_79)) (os_n (os_l (so_lastore d_Mo_join_80)) (os_l (so_aload_n d_Mo_join_81 rfl))))))) (os_n (os_n (os_n (os_n (os_l (so_get (C := R_Mo) (T := F_Mo) (N := 87) (j := 43) in_Mo rfl (by decide) mw_1837 d_Mo_join_82)) (os_l (so_iload_n d_Mo_join_85 rfl))) (os_n (os_l (so_dup2 d_Mo_join_86)) (os_l (so_laload d_Mo_join_87)))) (os_n (os_n (os_l (so_lconst d_Mo_join_88 (by decide))) (os_l (so_iload_n d_Mo_join_89 rfl))) (os_n (os_l (so_lshl d_Mo_join_90)) (os_n (os_l (so_lor d_Mo_join_91)) (os_l (so_lastore d_Mo_join_92)))))) (os_n (os_n (os_n (os_l (so_iconst d_Mo_join_93 (by decide))) (os_l (so_istore d_Mo_join_94 (by decide)))) (os_n (os_l (so_iload d_Mo_join_96)) (os_l (so_iconst d_Mo_join_98 (by decide))))) (os_n (os_n (os_l (so_aload_n d_Mo_join_99 rfl)) (os_l (so_get (C := R_Mo) (T := F_Mo) (N := 87) (j := 11) in_Mo rfl (by decide) mw_1805 d_Mo_join_100))) (os_n (os_l (so_imul d_Mo_join_103)) (os_n (os_l (so_icge d_Mo_join_104 (by decide))) (os_l (so_iload_n d_Mo_join_107 rfl))))))))) (os_n (os_n (os_n (os_n (os_n (os_n (os_l (so_iflt d_Mo_join_108 (by decide))) (os_l (so_aload_n d_Mo_join_111 rfl))) (os_n (os_l (so_get (C := R_Mo) (T := F_Mo) (N := 87) (j := 5) in_Mo rfl (by decide) mw_1799 d_Mo_join_112)) (os_l (so_iload_n d_Mo_join_115 rfl)))) (os_n (os_n (os_l (so_iaload d_Mo_join_116)) (os_l (so_ifeq d_Mo_join_117 (by decide)))) (os_n (os_l (so_aload_n d_Mo_join_120 rfl)) (os_n (os_l (so_get (C := R_Mo) (T := F_Mo) (N := 87) (j := 13) in_Mo rfl (by decide) mw_1807 d_Mo_join_121)) (os_l (so_iload d_Mo_join_124)))))) (os_n (os_n (os_n (os_l (so_iaload d_Mo_join_126)) (os_l (so_iload_n d_Mo_join_127 rfl))) (os_n (os_l (so_icne d_Mo_join_128 (by decide))) (os_l (so_iload d_Mo_join_131)))) (os_n (os_n (os_l (so_iload_n d_Mo_join_133 rfl)) (os_l (so_iceq d_Mo_join_134 (by decide)))) (os_n (os_l (so_aload_n d_Mo_join_137 rfl)) (os_n (os_l (so_get (C := R_Mo) (T := F_Mo) (N := 87) (j := 5) in_Mo rfl (by decide) mw_1799 d_Mo_join_138)) (os_l (so_iload_n d_Mo_join_141 rfl))))))) (os_n (os_n (os_n (os_n (os_l (so_iaload d_Mo_join_142)) (os_l (so_iconst d_Mo_join_143 (by decide)))) (os_n (os_l (so_icne d_Mo_join_144 (by decide))) (os_l (so_aload_n d_Mo_join_147 rfl)))) (os_n (os_n (os_l (so_get (C := R_Mo) (T := F_Mo) (N := 87) (j := 14) in_Mo rfl (by decide) mw_1808 d_Mo_join_148)) (os_l (so_iload_n d_Mo_join_151 rfl))) (os_n (os_l (so_iaload d_Mo_join_152)) (os_n (os_l (so_ifne d_Mo_join_153 (by decide))) (os_l (so_goto d_Mo_join_156 (by decide))))))) (os_n (os_n (os_n (os_l (so_aload_n d_Mo_join_159 rfl)) (os_l (so_get (C := R_Mo) (T := F_Mo) (N := 87) (j := 5) in_Mo rfl (by decide) mw_1799 d_Mo_join_160))) (os_n (os_l (so_iload_n d_Mo_join_163 rfl)) (os_l (so_iaload d_Mo_join_164)))) (os_n (os_n (os_l (so_iconst d_Mo_join_165 (by decide))) (os_l (so_isub d_Mo_join_166))) (os_n (os_l (so_aload_n d_Mo_join_167 rfl)) (os_n (os_l (so_get (C := R_Mo) (T := F_Mo) (N := 87) (j := 9) in_Mo rfl (by decide) mw_1803 d_Mo_join_168)) (os_l (so_iload_n d_Mo_join_171 rfl)))))))) (os_n (os_n (os_n (os_n (os_n (os_l (so_iaload d_Mo_join_172)) (os_l (so_aload_n d_Mo_join_173 rfl))) (os_n (os_l (so_get (C := R_Mo) (T := F_Mo) (N := 87) (j := 14) in_Mo rfl (by decide) mw_1808 d_Mo_join_174)) (os_l (so_iload_n d_Mo_join_177 rfl)))) (os_n (os_n (os_l (so_iaload d_Mo_join_178)) (os_l (so_aload_n d_Mo_join_179 rfl))) (os_n (os_l (so_get (C := R_Mo) (T := F_Mo) (N := 87) (j := 14) in_Mo rfl (by decide) mw_1808 d_Mo_join_180)) (os_n (os_l (so_iload d_Mo_join_183)) (os_l (so_iaload d_Mo_join_185)))))) (os_n (os_n (os_n (os_l (so_callS (iv := mi_Mo_passes) rfl mw_2393 mw_2394 mw_18 mw_2395 ⟨by decide +kernel, by decide +kernel, by decide +kernel⟩ (by decide) d_Mo_join_186)) (os_l (so_ifeq d_Mo_join_189 (by decide)))) (os_n (os_l (so_iconst d_Mo_join_192 (by decide))) (os_l (so_goto d_Mo_join_193 (by decide))))) (os_n (os_n (os_l (so_iconst d_Mo_join_196 (by decide))) (os_l (so_istore d_Mo_join_197 (by decide)))) (os_n (os_l (so_iload d_Mo_join_199)) (os_n (os_l (so_ifeq d_Mo_join_201 (by decide))) (os_l (so_aload_n d_Mo_join_204 rfl))))))) (os_n (os_n (os_n (os_n (os_l (so_get (C := R_Mo) (T := F_Mo) (N := 87) (j := 43) in_Mo rfl (by decide) mw_1837 d_Mo_join_205)) (os_l (so_iload_n d_Mo_join_208 rfl))) (os_n (os_l (so_dup2 d_Mo_join_209)) (os_l (so_laload d_Mo_join_210)))) (os_n (os_n (os_l (so_lconst d_Mo_join_211 (by decide))) (os_l (so_aload_n d_Mo_join_212 rfl))) (os_n (os_l (so_get (C := R_Mo) (T := F_Mo) (N := 87) (j := 4) in_Mo rfl (by decide) mw_1798 d_Mo_join_213)) (os_n (os_l (so_iload d_Mo_join_216)) (os_l (so_iconst d_Mo_join_218 (by decide))))))) (os_n (os_n (os_n (os_l (so_idiv d_Mo_join_219)) (os_l (so_iadd d_Mo_join_220))) (os_n (os_l (so_lshl d_Mo_join_221)) (os_n (os_l (so_lor d_Mo_join_222)) (os_l (so_lastore d_Mo_join_223))))) (os_n (os_n (os_l (so_iinc d_Mo_join_224 (by decide) (by decide))) (os_l (so_goto d_Mo_join_227 (by decide)))) (os_n (os_l (so_iinc d_Mo_join_230 (by decide) (by decide))) (os_n (os_l (so_goto d_Mo_join_233 (by decide))) (os_l (so_return rfl d_Mo_join_236))))))))))
abbrev t_Mo_flood_134 : List UInt8 := 173 :: []
abbrev t_Mo_flood_133 : List UInt8 := 32 :: t_Mo_flood_134
abbrev t_Mo_flood_130 : List UInt8 := 167 :: 255 :: 186 :: t_Mo_flood_133
abbrev t_Mo_flood_128 : List UInt8 := 54 :: 4 :: t_Mo_flood_130
abbrev t_Mo_flood_127 : List UInt8 := 3 :: t_Mo_flood_128
abbrev t_Mo_flood_124 : List UInt8 := 167 :: 0 :: 4 :: t_Mo_flood_127
abbrev t_Mo_flood_123 : List UInt8 := 4 :: t_Mo_flood_124
abbrev t_Mo_flood_120 : List UInt8 := 153 :: 0 :: 7 :: t_Mo_flood_123
abbrev t_Mo_flood_119 : List UInt8 := 148 :: t_Mo_flood_120
abbrev t_Mo_flood_117 : List UInt8 := 22 :: 5 :: t_Mo_flood_119
abbrev t_Mo_flood_116 : List UInt8 := 32 :: t_Mo_flood_117
abbrev t_Mo_flood_113 : List UInt8 := 167 :: 255 :: 214 :: t_Mo_flood_116
abbrev t_Mo_flood_110 : List UInt8 := 132 :: 7 :: 1 :: t_Mo_flood_113
abbrev t_Mo_flood_109 : List UInt8 := 65 :: t_Mo_flood_110
abbrev t_Mo_flood_108 : List UInt8 := 129 :: t_Mo_flood_109
abbrev t_Mo_flood_107 : List UInt8 := 9 :: t_Mo_flood_108
abbrev t_Mo_flood_104 : List UInt8 := 167 :: 0 :: 4 :: t_Mo_flood_107
abbrev t_Mo_flood_103 : List UInt8 := 47 :: t_Mo_flood_104
abbrev t_Mo_flood_101 : List UInt8 := 21 :: 7 :: t_Mo_flood_103
abbrev t_Mo_flood_98 : List UInt8 := 180 :: 0 :: 125 :: t_Mo_flood_101
abbrev t_Mo_flood_97 : List UInt8 := 42 :: t_Mo_flood_98
abbrev t_Mo_flood_94 : List UInt8 := 153 :: 0 :: 13 :: t_Mo_flood_97
abbrev t_Mo_flood_93 : List UInt8 := 148 :: t_Mo_flood_94
abbrev t_Mo_flood_92 : List UInt8 := 9 :: t_Mo_flood_93
abbrev t_Mo_flood_91 : List UInt8 := 127 :: t_Mo_flood_92
abbrev t_Mo_flood_90 : List UInt8 := 10 :: t_Mo_flood_91
abbrev t_Mo_flood_89 : List UInt8 := 123 :: t_Mo_flood_90
abbrev t_Mo_flood_87 : List UInt8 := 21 :: 7 :: t_Mo_flood_89
abbrev t_Mo_flood_86 : List UInt8 := 32 :: t_Mo_flood_87
abbrev t_Mo_flood_85 : List UInt8 := 32 :: t_Mo_flood_86
abbrev t_Mo_flood_82 : List UInt8 := 162 :: 0 :: 34 :: t_Mo_flood_85
abbrev t_Mo_flood_81 : List UInt8 := 96 :: t_Mo_flood_82
abbrev t_Mo_flood_78 : List UInt8 := 180 :: 1 :: 25 :: t_Mo_flood_81
abbrev t_Mo_flood_77 : List UInt8 := 42 :: t_Mo_flood_78
abbrev t_Mo_flood_74 : List UInt8 := 180 :: 1 :: 22 :: t_Mo_flood_77
abbrev t_Mo_flood_73 : List UInt8 := 42 :: t_Mo_flood_74
abbrev t_Mo_flood_71 : List UInt8 := 21 :: 7 :: t_Mo_flood_73
abbrev t_Mo_flood_69 : List UInt8 := 54 :: 7 :: t_Mo_flood_71
abbrev t_Mo_flood_68 : List UInt8 := 3 :: t_Mo_flood_69
abbrev t_Mo_flood_66 : List UInt8 := 55 :: 5 :: t_Mo_flood_68
abbrev t_Mo_flood_65 : List UInt8 := 32 :: t_Mo_flood_66
abbrev t_Mo_flood_62 : List UInt8 := 153 :: 0 :: 71 :: t_Mo_flood_65
abbrev t_Mo_flood_60 : List UInt8 := 21 :: 4 :: t_Mo_flood_62
abbrev t_Mo_flood_58 : List UInt8 := 54 :: 4 :: t_Mo_flood_60
abbrev t_Mo_flood_57 : List UInt8 := 3 :: t_Mo_flood_58
abbrev t_Mo_flood_54 : List UInt8 := 167 :: 0 :: 4 :: t_Mo_flood_57
abbrev t_Mo_flood_53 : List UInt8 := 4 :: t_Mo_flood_54
abbrev t_Mo_flood_50 : List UInt8 := 153 :: 0 :: 7 :: t_Mo_flood_53
abbrev t_Mo_flood_49 : List UInt8 := 148 :: t_Mo_flood_50
abbrev t_Mo_flood_48 : List UInt8 := 9 :: t_Mo_flood_49
abbrev t_Mo_flood_47 : List UInt8 := 32 :: t_Mo_flood_48
abbrev t_Mo_flood_44 : List UInt8 := 167 :: 255 :: 217 :: t_Mo_flood_47
abbrev t_Mo_flood_41 : List UInt8 := 132 :: 4 :: 1 :: t_Mo_flood_44
abbrev t_Mo_flood_40 : List UInt8 := 65 :: t_Mo_flood_41
abbrev t_Mo_flood_39 : List UInt8 := 129 :: t_Mo_flood_40
abbrev t_Mo_flood_38 : List UInt8 := 9 :: t_Mo_flood_39
abbrev t_Mo_flood_35 : List UInt8 := 167 :: 0 :: 4 :: t_Mo_flood_38
abbrev t_Mo_flood_34 : List UInt8 := 121 :: t_Mo_flood_35
abbrev t_Mo_flood_32 : List UInt8 := 21 :: 4 :: t_Mo_flood_34
abbrev t_Mo_flood_31 : List UInt8 := 10 :: t_Mo_flood_32
abbrev t_Mo_flood_28 : List UInt8 := 160 :: 0 :: 10 :: t_Mo_flood_31
abbrev t_Mo_flood_27 : List UInt8 := 27 :: t_Mo_flood_28
abbrev t_Mo_flood_26 : List UInt8 := 46 :: t_Mo_flood_27
abbrev t_Mo_flood_24 : List UInt8 := 21 :: 4 :: t_Mo_flood_26
abbrev t_Mo_flood_21 : List UInt8 := 180 :: 0 :: 122 :: t_Mo_flood_24
abbrev t_Mo_flood_20 : List UInt8 := 42 :: t_Mo_flood_21
abbrev t_Mo_flood_19 : List UInt8 := 32 :: t_Mo_flood_20
abbrev t_Mo_flood_16 : List UInt8 := 162 :: 0 :: 31 :: t_Mo_flood_19
abbrev t_Mo_flood_15 : List UInt8 := 96 :: t_Mo_flood_16
abbrev t_Mo_flood_12 : List UInt8 := 180 :: 1 :: 25 :: t_Mo_flood_15
abbrev t_Mo_flood_11 : List UInt8 := 42 :: t_Mo_flood_12
abbrev t_Mo_flood_8 : List UInt8 := 180 :: 1 :: 22 :: t_Mo_flood_11
abbrev t_Mo_flood_7 : List UInt8 := 42 :: t_Mo_flood_8
abbrev t_Mo_flood_5 : List UInt8 := 21 :: 4 :: t_Mo_flood_7
abbrev t_Mo_flood_3 : List UInt8 := 54 :: 4 :: t_Mo_flood_5
abbrev t_Mo_flood_2 : List UInt8 := 3 :: t_Mo_flood_3
abbrev t_Mo_flood_1 : List UInt8 := 65 :: t_Mo_flood_2
abbrev t_Mo_flood_0 : List UInt8 := 9 :: t_Mo_flood_1
theorem a_Mo_flood_0 : dk_at b_Mo_flood 0 t_Mo_flood_0 := dk_start (by decide +kernel)
theorem a_Mo_flood_1 : dk_at b_Mo_flood 1 t_Mo_flood_1 := dk_go 1 a_Mo_flood_0 rfl
theorem a_Mo_flood_2 : dk_at b_Mo_flood 2 t_Mo_flood_2 := dk_go 1 a_Mo_flood_1 rfl
theorem a_Mo_flood_3 : dk_at b_Mo_flood 3 t_Mo_flood_3 := dk_go 1 a_Mo_flood_2 rfl
theorem a_Mo_flood_5 : dk_at b_Mo_flood 5 t_Mo_flood_5 := dk_go 2 a_Mo_flood_3 rfl
theorem a_Mo_flood_7 : dk_at b_Mo_flood 7 t_Mo_flood_7 := dk_go 2 a_Mo_flood_5 rfl
theorem a_Mo_flood_8 : dk_at b_Mo_flood 8 t_Mo_flood_8 := dk_go 1 a_Mo_flood_7 rfl
theorem a_Mo_flood_11 : dk_at b_Mo_flood 11 t_Mo_flood_11 := dk_go 3 a_Mo_flood_8 rfl
theorem a_Mo_flood_12 : dk_at b_Mo_flood 12 t_Mo_flood_12 := dk_go 1 a_Mo_flood_11 rfl
theorem a_Mo_flood_15 : dk_at b_Mo_flood 15 t_Mo_flood_15 := dk_go 3 a_Mo_flood_12 rfl
theorem a_Mo_flood_16 : dk_at b_Mo_flood 16 t_Mo_flood_16 := dk_go 1 a_Mo_flood_15 rfl
theorem a_Mo_flood_19 : dk_at b_Mo_flood 19 t_Mo_flood_19 := dk_go 3 a_Mo_flood_16 rfl
theorem a_Mo_flood_20 : dk_at b_Mo_flood 20 t_Mo_flood_20 := dk_go 1 a_Mo_flood_19 rfl
theorem a_Mo_flood_21 : dk_at b_Mo_flood 21 t_Mo_flood_21 := dk_go 1 a_Mo_flood_20 rfl
theorem a_Mo_flood_24 : dk_at b_Mo_flood 24 t_Mo_flood_24 := dk_go 3 a_Mo_flood_21 rfl
theorem a_Mo_flood_26 : dk_at b_Mo_flood 26 t_Mo_flood_26 := dk_go 2 a_Mo_flood_24 rfl
theorem a_Mo_flood_27 : dk_at b_Mo_flood 27 t_Mo_flood_27 := dk_go 1 a_Mo_flood_26 rfl
theorem a_Mo_flood_28 : dk_at b_Mo_flood 28 t_Mo_flood_28 := dk_go 1 a_Mo_flood_27 rfl
theorem a_Mo_flood_31 : dk_at b_Mo_flood 31 t_Mo_flood_31 := dk_go 3 a_Mo_flood_28 rfl
theorem a_Mo_flood_32 : dk_at b_Mo_flood 32 t_Mo_flood_32 := dk_go 1 a_Mo_flood_31 rfl
theorem a_Mo_flood_34 : dk_at b_Mo_flood 34 t_Mo_flood_34 := dk_go 2 a_Mo_flood_32 rfl
theorem a_Mo_flood_35 : dk_at b_Mo_flood 35 t_Mo_flood_35 := dk_go 1 a_Mo_flood_34 rfl
theorem a_Mo_flood_38 : dk_at b_Mo_flood 38 t_Mo_flood_38 := dk_go 3 a_Mo_flood_35 rfl
theorem a_Mo_flood_39 : dk_at b_Mo_flood 39 t_Mo_flood_39 := dk_go 1 a_Mo_flood_38 rfl
theorem a_Mo_flood_40 : dk_at b_Mo_flood 40 t_Mo_flood_40 := dk_go 1 a_Mo_flood_39 rfl
theorem a_Mo_flood_41 : dk_at b_Mo_flood 41 t_Mo_flood_41 := dk_go 1 a_Mo_flood_40 rfl
theorem a_Mo_flood_44 : dk_at b_Mo_flood 44 t_Mo_flood_44 := dk_go 3 a_Mo_flood_41 rfl
theorem a_Mo_flood_47 : dk_at b_Mo_flood 47 t_Mo_flood_47 := dk_go 3 a_Mo_flood_44 rfl
theorem a_Mo_flood_48 : dk_at b_Mo_flood 48 t_Mo_flood_48 := dk_go 1 a_Mo_flood_47 rfl
theorem a_Mo_flood_49 : dk_at b_Mo_flood 49 t_Mo_flood_49 := dk_go 1 a_Mo_flood_48 rfl
theorem a_Mo_flood_50 : dk_at b_Mo_flood 50 t_Mo_flood_50 := dk_go 1 a_Mo_flood_49 rfl
theorem a_Mo_flood_53 : dk_at b_Mo_flood 53 t_Mo_flood_53 := dk_go 3 a_Mo_flood_50 rfl
theorem a_Mo_flood_54 : dk_at b_Mo_flood 54 t_Mo_flood_54 := dk_go 1 a_Mo_flood_53 rfl
theorem a_Mo_flood_57 : dk_at b_Mo_flood 57 t_Mo_flood_57 := dk_go 3 a_Mo_flood_54 rfl
theorem a_Mo_flood_58 : dk_at b_Mo_flood 58 t_Mo_flood_58 := dk_go 1 a_Mo_flood_57 rfl
theorem a_Mo_flood_60 : dk_at b_Mo_flood 60 t_Mo_flood_60 := dk_go 2 a_Mo_flood_58 rfl
theorem a_Mo_flood_62 : dk_at b_Mo_flood 62 t_Mo_flood_62 := dk_go 2 a_Mo_flood_60 rfl
theorem a_Mo_flood_65 : dk_at b_Mo_flood 65 t_Mo_flood_65 := dk_go 3 a_Mo_flood_62 rfl
theorem a_Mo_flood_66 : dk_at b_Mo_flood 66 t_Mo_flood_66 := dk_go 1 a_Mo_flood_65 rfl
theorem a_Mo_flood_68 : dk_at b_Mo_flood 68 t_Mo_flood_68 := dk_go 2 a_Mo_flood_66 rfl
theorem a_Mo_flood_69 : dk_at b_Mo_flood 69 t_Mo_flood_69 := dk_go 1 a_Mo_flood_68 rfl
theorem a_Mo_flood_71 : dk_at b_Mo_flood 71 t_Mo_flood_71 := dk_go 2 a_Mo_flood_69 rfl
theorem a_Mo_flood_73 : dk_at b_Mo_flood 73 t_Mo_flood_73 := dk_go 2 a_Mo_flood_71 rfl
theorem a_Mo_flood_74 : dk_at b_Mo_flood 74 t_Mo_flood_74 := dk_go 1 a_Mo_flood_73 rfl
theorem a_Mo_flood_77 : dk_at b_Mo_flood 77 t_Mo_flood_77 := dk_go 3 a_Mo_flood_74 rfl
theorem a_Mo_flood_78 : dk_at b_Mo_flood 78 t_Mo_flood_78 := dk_go 1 a_Mo_flood_77 rfl
theorem a_Mo_flood_81 : dk_at b_Mo_flood 81 t_Mo_flood_81 := dk_go 3 a_Mo_flood_78 rfl
theorem a_Mo_flood_82 : dk_at b_Mo_flood 82 t_Mo_flood_82 := dk_go 1 a_Mo_flood_81 rfl
theorem a_Mo_flood_85 : dk_at b_Mo_flood 85 t_Mo_flood_85 := dk_go 3 a_Mo_flood_82 rfl
theorem a_Mo_flood_86 : dk_at b_Mo_flood 86 t_Mo_flood_86 := dk_go 1 a_Mo_flood_85 rfl
theorem a_Mo_flood_87 : dk_at b_Mo_flood 87 t_Mo_flood_87 := dk_go 1 a_Mo_flood_86 rfl
theorem a_Mo_flood_89 : dk_at b_Mo_flood 89 t_Mo_flood_89 := dk_go 2 a_Mo_flood_87 rfl
theorem a_Mo_flood_90 : dk_at b_Mo_flood 90 t_Mo_flood_90 := dk_go 1 a_Mo_flood_89 rfl
theorem a_Mo_flood_91 : dk_at b_Mo_flood 91 t_Mo_flood_91 := dk_go 1 a_Mo_flood_90 rfl
theorem a_Mo_flood_92 : dk_at b_Mo_flood 92 t_Mo_flood_92 := dk_go 1 a_Mo_flood_91 rfl
theorem a_Mo_flood_93 : dk_at b_Mo_flood 93 t_Mo_flood_93 := dk_go 1 a_Mo_flood_92 rfl
theorem a_Mo_flood_94 : dk_at b_Mo_flood 94 t_Mo_flood_94 := dk_go 1 a_Mo_flood_93 rfl
theorem a_Mo_flood_97 : dk_at b_Mo_flood 97 t_Mo_flood_97 := dk_go 3 a_Mo_flood_94 rfl
theorem a_Mo_flood_98 : dk_at b_Mo_flood 98 t_Mo_flood_98 := dk_go 1 a_Mo_flood_97 rfl
theorem a_Mo_flood_101 : dk_at b_Mo_flood 101 t_Mo_flood_101 := dk_go 3 a_Mo_flood_98 rfl
theorem a_Mo_flood_103 : dk_at b_Mo_flood 103 t_Mo_flood_103 := dk_go 2 a_Mo_flood_101 rfl
theorem a_Mo_flood_104 : dk_at b_Mo_flood 104 t_Mo_flood_104 := dk_go 1 a_Mo_flood_103 rfl
theorem a_Mo_flood_107 : dk_at b_Mo_flood 107 t_Mo_flood_107 := dk_go 3 a_Mo_flood_104 rfl
theorem a_Mo_flood_108 : dk_at b_Mo_flood 108 t_Mo_flood_108 := dk_go 1 a_Mo_flood_107 rfl
theorem a_Mo_flood_109 : dk_at b_Mo_flood 109 t_Mo_flood_109 := dk_go 1 a_Mo_flood_108 rfl
theorem a_Mo_flood_110 : dk_at b_Mo_flood 110 t_Mo_flood_110 := dk_go 1 a_Mo_flood_109 rfl
theorem a_Mo_flood_113 : dk_at b_Mo_flood 113 t_Mo_flood_113 := dk_go 3 a_Mo_flood_110 rfl
theorem a_Mo_flood_116 : dk_at b_Mo_flood 116 t_Mo_flood_116 := dk_go 3 a_Mo_flood_113 rfl
theorem a_Mo_flood_117 : dk_at b_Mo_flood 117 t_Mo_flood_117 := dk_go 1 a_Mo_flood_116 rfl
theorem a_Mo_flood_119 : dk_at b_Mo_flood 119 t_Mo_flood_119 := dk_go 2 a_Mo_flood_117 rfl
theorem a_Mo_flood_120 : dk_at b_Mo_flood 120 t_Mo_flood_120 := dk_go 1 a_Mo_flood_119 rfl
theorem a_Mo_flood_123 : dk_at b_Mo_flood 123 t_Mo_flood_123 := dk_go 3 a_Mo_flood_120 rfl
theorem a_Mo_flood_124 : dk_at b_Mo_flood 124 t_Mo_flood_124 := dk_go 1 a_Mo_flood_123 rfl
theorem a_Mo_flood_127 : dk_at b_Mo_flood 127 t_Mo_flood_127 := dk_go 3 a_Mo_flood_124 rfl
theorem a_Mo_flood_128 : dk_at b_Mo_flood 128 t_Mo_flood_128 := dk_go 1 a_Mo_flood_127 rfl
theorem a_Mo_flood_130 : dk_at b_Mo_flood 130 t_Mo_flood_130 := dk_go 2 a_Mo_flood_128 rfl
theorem a_Mo_flood_133 : dk_at b_Mo_flood 133 t_Mo_flood_133 := dk_go 3 a_Mo_flood_130 rfl
theorem a_Mo_flood_134 : dk_at b_Mo_flood 134 t_Mo_flood_134 := dk_go 1 a_Mo_flood_133 rfl
theorem d_Mo_flood_0 : decode b_Mo_flood 0 = .ok (.lconst 0, 1) := dk_0 a_Mo_flood_0 (dko_9 _)
theorem d_Mo_flood_1 : decode b_Mo_flood 1 = .ok (.lstore_n 2, 1) := dk_0 a_Mo_flood_1 (dko_65 _)
theorem d_Mo_flood_2 : decode b_Mo_flood 2 = .ok (.iconst 0, 1) := dk_0 a_Mo_flood_2 (dko_3 _)
theorem d_Mo_flood_3 : decode b_Mo_flood 3 = .ok (.istore 4, 2) := dk_U1 a_Mo_flood_3 (dko_54 _) rfl
theorem d_Mo_flood_5 : decode b_Mo_flood 5 = .ok (.iload 4, 2) := dk_U1 a_Mo_flood_5 (dko_21 _) rfl
theorem d_Mo_flood_7 : decode b_Mo_flood 7 = .ok (.aload_n 0, 1) := dk_0 a_Mo_flood_7 (dko_42 _)
theorem d_Mo_flood_8 : decode b_Mo_flood 8 = .ok (.getfield 278, 3) := dk_U2 a_Mo_flood_8 (dko_180 _) rfl
theorem d_Mo_flood_11 : decode b_Mo_flood 11 = .ok (.aload_n 0, 1) := dk_0 a_Mo_flood_11 (dko_42 _)
theorem d_Mo_flood_12 : decode b_Mo_flood 12 = .ok (.getfield 281, 3) := dk_U2 a_Mo_flood_12 (dko_180 _) rfl
theorem d_Mo_flood_15 : decode b_Mo_flood 15 = .ok (.iadd, 1) := dk_0 a_Mo_flood_15 (dko_96 _)
theorem d_Mo_flood_16 : decode b_Mo_flood 16 = .ok (.if_icmp .ge 31, 3) := dk_S2 a_Mo_flood_16 (dko_162 _) (by decide +kernel)
theorem d_Mo_flood_19 : decode b_Mo_flood 19 = .ok (.lload_n 2, 1) := dk_0 a_Mo_flood_19 (dko_32 _)
theorem d_Mo_flood_20 : decode b_Mo_flood 20 = .ok (.aload_n 0, 1) := dk_0 a_Mo_flood_20 (dko_42 _)
theorem d_Mo_flood_21 : decode b_Mo_flood 21 = .ok (.getfield 122, 3) := dk_U2 a_Mo_flood_21 (dko_180 _) rfl
theorem d_Mo_flood_24 : decode b_Mo_flood 24 = .ok (.iload 4, 2) := dk_U1 a_Mo_flood_24 (dko_21 _) rfl
theorem d_Mo_flood_26 : decode b_Mo_flood 26 = .ok (.iaload, 1) := dk_0 a_Mo_flood_26 (dko_46 _)
theorem d_Mo_flood_27 : decode b_Mo_flood 27 = .ok (.iload_n 1, 1) := dk_0 a_Mo_flood_27 (dko_27 _)
theorem d_Mo_flood_28 : decode b_Mo_flood 28 = .ok (.if_icmp .ne 10, 3) := dk_S2 a_Mo_flood_28 (dko_160 _) (by decide +kernel)
theorem d_Mo_flood_31 : decode b_Mo_flood 31 = .ok (.lconst 1, 1) := dk_0 a_Mo_flood_31 (dko_10 _)
theorem d_Mo_flood_32 : decode b_Mo_flood 32 = .ok (.iload 4, 2) := dk_U1 a_Mo_flood_32 (dko_21 _) rfl
theorem d_Mo_flood_34 : decode b_Mo_flood 34 = .ok (.lshl, 1) := dk_0 a_Mo_flood_34 (dko_121 _)
theorem d_Mo_flood_35 : decode b_Mo_flood 35 = .ok (.goto 4, 3) := dk_S2 a_Mo_flood_35 (dko_167 _) (by decide +kernel)
theorem d_Mo_flood_38 : decode b_Mo_flood 38 = .ok (.lconst 0, 1) := dk_0 a_Mo_flood_38 (dko_9 _)
theorem d_Mo_flood_39 : decode b_Mo_flood 39 = .ok (.lor, 1) := dk_0 a_Mo_flood_39 (dko_129 _)
theorem d_Mo_flood_40 : decode b_Mo_flood 40 = .ok (.lstore_n 2, 1) := dk_0 a_Mo_flood_40 (dko_65 _)
theorem d_Mo_flood_41 : decode b_Mo_flood 41 = .ok (.iinc 4 1, 3) := dk_US a_Mo_flood_41 (dko_132 _) (by decide +kernel)
theorem d_Mo_flood_44 : decode b_Mo_flood 44 = .ok (.goto (-39), 3) := dk_S2 a_Mo_flood_44 (dko_167 _) (by decide +kernel)
theorem d_Mo_flood_47 : decode b_Mo_flood 47 = .ok (.lload_n 2, 1) := dk_0 a_Mo_flood_47 (dko_32 _)
theorem d_Mo_flood_48 : decode b_Mo_flood 48 = .ok (.lconst 0, 1) := dk_0 a_Mo_flood_48 (dko_9 _)
theorem d_Mo_flood_49 : decode b_Mo_flood 49 = .ok (.lcmp, 1) := dk_0 a_Mo_flood_49 (dko_148 _)
theorem d_Mo_flood_50 : decode b_Mo_flood 50 = .ok (.ifCond .eq 7, 3) := dk_S2 a_Mo_flood_50 (dko_153 _) (by decide +kernel)
theorem d_Mo_flood_53 : decode b_Mo_flood 53 = .ok (.iconst 1, 1) := dk_0 a_Mo_flood_53 (dko_4 _)
theorem d_Mo_flood_54 : decode b_Mo_flood 54 = .ok (.goto 4, 3) := dk_S2 a_Mo_flood_54 (dko_167 _) (by decide +kernel)
theorem d_Mo_flood_57 : decode b_Mo_flood 57 = .ok (.iconst 0, 1) := dk_0 a_Mo_flood_57 (dko_3 _)
theorem d_Mo_flood_58 : decode b_Mo_flood 58 = .ok (.istore 4, 2) := dk_U1 a_Mo_flood_58 (dko_54 _) rfl
theorem d_Mo_flood_60 : decode b_Mo_flood 60 = .ok (.iload 4, 2) := dk_U1 a_Mo_flood_60 (dko_21 _) rfl
theorem d_Mo_flood_62 : decode b_Mo_flood 62 = .ok (.ifCond .eq 71, 3) := dk_S2 a_Mo_flood_62 (dko_153 _) (by decide +kernel)
theorem d_Mo_flood_65 : decode b_Mo_flood 65 = .ok (.lload_n 2, 1) := dk_0 a_Mo_flood_65 (dko_32 _)
theorem d_Mo_flood_66 : decode b_Mo_flood 66 = .ok (.lstore 5, 2) := dk_U1 a_Mo_flood_66 (dko_55 _) rfl
theorem d_Mo_flood_68 : decode b_Mo_flood 68 = .ok (.iconst 0, 1) := dk_0 a_Mo_flood_68 (dko_3 _)
theorem d_Mo_flood_69 : decode b_Mo_flood 69 = .ok (.istore 7, 2) := dk_U1 a_Mo_flood_69 (dko_54 _) rfl
theorem d_Mo_flood_71 : decode b_Mo_flood 71 = .ok (.iload 7, 2) := dk_U1 a_Mo_flood_71 (dko_21 _) rfl
theorem d_Mo_flood_73 : decode b_Mo_flood 73 = .ok (.aload_n 0, 1) := dk_0 a_Mo_flood_73 (dko_42 _)
theorem d_Mo_flood_74 : decode b_Mo_flood 74 = .ok (.getfield 278, 3) := dk_U2 a_Mo_flood_74 (dko_180 _) rfl
theorem d_Mo_flood_77 : decode b_Mo_flood 77 = .ok (.aload_n 0, 1) := dk_0 a_Mo_flood_77 (dko_42 _)
theorem d_Mo_flood_78 : decode b_Mo_flood 78 = .ok (.getfield 281, 3) := dk_U2 a_Mo_flood_78 (dko_180 _) rfl
theorem d_Mo_flood_81 : decode b_Mo_flood 81 = .ok (.iadd, 1) := dk_0 a_Mo_flood_81 (dko_96 _)
theorem d_Mo_flood_82 : decode b_Mo_flood 82 = .ok (.if_icmp .ge 34, 3) := dk_S2 a_Mo_flood_82 (dko_162 _) (by decide +kernel)
theorem d_Mo_flood_85 : decode b_Mo_flood 85 = .ok (.lload_n 2, 1) := dk_0 a_Mo_flood_85 (dko_32 _)
theorem d_Mo_flood_86 : decode b_Mo_flood 86 = .ok (.lload_n 2, 1) := dk_0 a_Mo_flood_86 (dko_32 _)
theorem d_Mo_flood_87 : decode b_Mo_flood 87 = .ok (.iload 7, 2) := dk_U1 a_Mo_flood_87 (dko_21 _) rfl
theorem d_Mo_flood_89 : decode b_Mo_flood 89 = .ok (.lshr, 1) := dk_0 a_Mo_flood_89 (dko_123 _)
theorem d_Mo_flood_90 : decode b_Mo_flood 90 = .ok (.lconst 1, 1) := dk_0 a_Mo_flood_90 (dko_10 _)
theorem d_Mo_flood_91 : decode b_Mo_flood 91 = .ok (.land, 1) := dk_0 a_Mo_flood_91 (dko_127 _)
theorem d_Mo_flood_92 : decode b_Mo_flood 92 = .ok (.lconst 0, 1) := dk_0 a_Mo_flood_92 (dko_9 _)
theorem d_Mo_flood_93 : decode b_Mo_flood 93 = .ok (.lcmp, 1) := dk_0 a_Mo_flood_93 (dko_148 _)
theorem d_Mo_flood_94 : decode b_Mo_flood 94 = .ok (.ifCond .eq 13, 3) := dk_S2 a_Mo_flood_94 (dko_153 _) (by decide +kernel)
theorem d_Mo_flood_97 : decode b_Mo_flood 97 = .ok (.aload_n 0, 1) := dk_0 a_Mo_flood_97 (dko_42 _)
theorem d_Mo_flood_98 : decode b_Mo_flood 98 = .ok (.getfield 125, 3) := dk_U2 a_Mo_flood_98 (dko_180 _) rfl
theorem d_Mo_flood_101 : decode b_Mo_flood 101 = .ok (.iload 7, 2) := dk_U1 a_Mo_flood_101 (dko_21 _) rfl
theorem d_Mo_flood_103 : decode b_Mo_flood 103 = .ok (.laload, 1) := dk_0 a_Mo_flood_103 (dko_47 _)
theorem d_Mo_flood_104 : decode b_Mo_flood 104 = .ok (.goto 4, 3) := dk_S2 a_Mo_flood_104 (dko_167 _) (by decide +kernel)
theorem d_Mo_flood_107 : decode b_Mo_flood 107 = .ok (.lconst 0, 1) := dk_0 a_Mo_flood_107 (dko_9 _)
theorem d_Mo_flood_108 : decode b_Mo_flood 108 = .ok (.lor, 1) := dk_0 a_Mo_flood_108 (dko_129 _)
theorem d_Mo_flood_109 : decode b_Mo_flood 109 = .ok (.lstore_n 2, 1) := dk_0 a_Mo_flood_109 (dko_65 _)
theorem d_Mo_flood_110 : decode b_Mo_flood 110 = .ok (.iinc 7 1, 3) := dk_US a_Mo_flood_110 (dko_132 _) (by decide +kernel)
theorem d_Mo_flood_113 : decode b_Mo_flood 113 = .ok (.goto (-42), 3) := dk_S2 a_Mo_flood_113 (dko_167 _) (by decide +kernel)
theorem d_Mo_flood_116 : decode b_Mo_flood 116 = .ok (.lload_n 2, 1) := dk_0 a_Mo_flood_116 (dko_32 _)
theorem d_Mo_flood_117 : decode b_Mo_flood 117 = .ok (.lload 5, 2) := dk_U1 a_Mo_flood_117 (dko_22 _) rfl
theorem d_Mo_flood_119 : decode b_Mo_flood 119 = .ok (.lcmp, 1) := dk_0 a_Mo_flood_119 (dko_148 _)
theorem d_Mo_flood_120 : decode b_Mo_flood 120 = .ok (.ifCond .eq 7, 3) := dk_S2 a_Mo_flood_120 (dko_153 _) (by decide +kernel)
theorem d_Mo_flood_123 : decode b_Mo_flood 123 = .ok (.iconst 1, 1) := dk_0 a_Mo_flood_123 (dko_4 _)
theorem d_Mo_flood_124 : decode b_Mo_flood 124 = .ok (.goto 4, 3) := dk_S2 a_Mo_flood_124 (dko_167 _) (by decide +kernel)
theorem d_Mo_flood_127 : decode b_Mo_flood 127 = .ok (.iconst 0, 1) := dk_0 a_Mo_flood_127 (dko_3 _)
theorem d_Mo_flood_128 : decode b_Mo_flood 128 = .ok (.istore 4, 2) := dk_U1 a_Mo_flood_128 (dko_54 _) rfl
theorem d_Mo_flood_130 : decode b_Mo_flood 130 = .ok (.goto (-70), 3) := dk_S2 a_Mo_flood_130 (dko_167 _) (by decide +kernel)
theorem d_Mo_flood_133 : decode b_Mo_flood 133 = .ok (.lload_n 2, 1) := dk_0 a_Mo_flood_133 (dko_32 _)
theorem d_Mo_flood_134 : decode b_Mo_flood 134 = .ok (.lreturn, 1) := dk_0 a_Mo_flood_134 (dko_173 _)
set_option maxHeartbeats 4000000 in
set_option maxRecDepth 100000 in
theorem ok_Mo_flood (pc : Nat) : OpS mt mi_Mo_flood pc (cs_Mo_flood pc) := (os_n (os_n (os_n (os_n (os_n (os_n (os_l (so_lconst d_Mo_flood_0 (by decide))) (os_l (so_lstore_n d_Mo_flood_1 rfl (by decide)))) (os_n (os_l (so_iconst d_Mo_flood_2 (by decide))) (os_l (so_istore d_Mo_flood_3 (by decide))))) (os_n (os_n (os_l (so_iload d_Mo_flood_5)) (os_l (so_aload_n d_Mo_flood_7 rfl))) (os_n (os_l (so_get (C := R_Mo) (T := F_Mo) (N := 87) (j := 4) in_Mo rfl (by decide) mw_1798 d_Mo_flood_8)) (os_n (os_l (so_aload_n d_Mo_flood_11 rfl)) (os_l (so_get (C := R_Mo) (T := F_Mo) (N := 87) (j := 11) in_Mo rfl (by decide) mw_1805 d_Mo_flood_12)))))) (os_n (os_n (os_n (os_l (so_iadd d_Mo_flood_15)) (os_l (so_icge d_Mo_flood_16 (by decide)))) (os_n (os_l (so_lload_n d_Mo_flood_19 rfl)) (os_n (os_l (so_aload_n d_Mo_flood_20 rfl)) (os_l (so_get (C := R_Mo) (T := F_Mo) (N := 87) (j := 42) in_Mo rfl (by decide) mw_1836 d_Mo_flood_21))))) (os_n (os_n (os_l (so_iload d_Mo_flood_24)) (os_l (so_iaload d_Mo_flood_26))) (os_n (os_l (so_iload_n d_Mo_flood_27 rfl)) (os_n (os_l (so_icne d_Mo_flood_28 (by decide))) (os_l (so_lconst d_Mo_flood_31 (by decide)))))))) (os_n (os_n (os_n (os_n (os_l (so_iload d_Mo_flood_32)) (os_l (so_lshl d_Mo_flood_34))) (os_n (os_l (so_goto d_Mo_flood_35 (by decide))) (os_n (os_l (so_lconst d_Mo_flood_38 (by decide))) (os_l (so_lor d_Mo_flood_39))))) (os_n (os_n (os_l (so_lstore_n d_Mo_flood_40 rfl (by decide))) (os_l (so_iinc d_Mo_flood_41 (by decide) (by decide)))) (os_n (os_l (so_goto d_Mo_flood_44 (by decide))) (os_n (os_l (so_lload_n d_Mo_flood_47 rfl)) (os_l (so_lconst d_Mo_flood_48 (by decide))))))) (os_n (os_n (os_n (os_l (so_lcmp d_Mo_flood_49)) (os_l (so_ifeq d_Mo_flood_50 (by decide)))) (os_n (os_l (so_iconst d_Mo_flood_53 (by decide))) (os_n (os_l (so_goto d_Mo_flood_54 (by decide))) (os_l (so_iconst d_Mo_flood_57 (by decide)))))) (os_n (os_n (os_l (so_istore d_Mo_flood_58 (by decide))) (os_l (so_iload d_Mo_flood_60))) (os_n (os_l (so_ifeq d_Mo_flood_62 (by decide))) (os_n (os_l (so_lload_n d_Mo_flood_65 rfl)) (os_l (so_lstore d_Mo_flood_66 (by decide))))))))) (os_n (os_n (os_n (os_n (os_n (os_l (so_iconst d_Mo_flood_68 (by decide))) (os_l (so_istore d_Mo_flood_69 (by decide)))) (os_n (os_l (so_iload d_Mo_flood_71)) (os_l (so_aload_n d_Mo_flood_73 rfl)))) (os_n (os_n (os_l (so_get (C := R_Mo) (T := F_Mo) (N := 87) (j := 4) in_Mo rfl (by decide) mw_1798 d_Mo_flood_74)) (os_l (so_aload_n d_Mo_flood_77 rfl))) (os_n (os_l (so_get (C := R_Mo) (T := F_Mo) (N := 87) (j := 11) in_Mo rfl (by decide) mw_1805 d_Mo_flood_78)) (os_n (os_l (so_iadd d_Mo_flood_81)) (os_l (so_icge d_Mo_flood_82 (by decide))))))) (os_n (os_n (os_n (os_l (so_lload_n d_Mo_flood_85 rfl)) (os_l (so_lload_n d_Mo_flood_86 rfl))) (os_n (os_l (so_iload d_Mo_flood_87)) (os_n (os_l (so_lshr d_Mo_flood_89)) (os_l (so_lconst d_Mo_flood_90 (by decide)))))) (os_n (os_n (os_l (so_land d_Mo_flood_91)) (os_l (so_lconst d_Mo_flood_92 (by decide)))) (os_n (os_l (so_lcmp d_Mo_flood_93)) (os_n (os_l (so_ifeq d_Mo_flood_94 (by decide))) (os_l (so_aload_n d_Mo_flood_97 rfl))))))) (os_n (os_n (os_n (os_n (os_l (so_get (C := R_Mo) (T := F_Mo) (N := 87) (j := 43) in_Mo rfl (by decide) mw_1837 d_Mo_flood_98)) (os_l (so_iload d_Mo_flood_101))) (os_n (os_l (so_laload d_Mo_flood_103)) (os_n (os_l (so_goto d_Mo_flood_104 (by decide))) (os_l (so_lconst d_Mo_flood_107 (by decide)))))) (os_n (os_n (os_l (so_lor d_Mo_flood_108)) (os_l (so_lstore_n d_Mo_flood_109 rfl (by decide)))) (os_n (os_l (so_iinc d_Mo_flood_110 (by decide) (by decide))) (os_n (os_l (so_goto d_Mo_flood_113 (by decide))) (os_l (so_lload_n d_Mo_flood_116 rfl)))))) (os_n (os_n (os_n (os_l (so_lload d_Mo_flood_117)) (os_l (so_lcmp d_Mo_flood_119))) (os_n (os_l (so_ifeq d_Mo_flood_120 (by decide))) (os_n (os_l (so_iconst d_Mo_flood_123 (by decide))) (os_l (so_goto d_Mo_flood_124 (by decide)))))) (os_n (os_n (os_l (so_iconst d_Mo_flood_127 (by decide))) (os_l (so_istore d_Mo_flood_128 (by decide)))) (os_n (os_l (so_goto d_Mo_flood_130 (by decide))) (os_n (os_l (so_lload_n d_Mo_flood_133 rfl)) (os_l (so_lreturn rfl d_Mo_flood_134)))))))))
abbrev t_Mo_mayMeet_36 : List UInt8 := 172 :: []
abbrev t_Mo_mayMeet_35 : List UInt8 := 3 :: t_Mo_mayMeet_36
abbrev t_Mo_mayMeet_32 : List UInt8 := 167 :: 0 :: 4 :: t_Mo_mayMeet_35
abbrev t_Mo_mayMeet_31 : List UInt8 := 4 :: t_Mo_mayMeet_32
abbrev t_Mo_mayMeet_28 : List UInt8 := 153 :: 0 :: 7 :: t_Mo_mayMeet_31
abbrev t_Mo_mayMeet_27 : List UInt8 := 51 :: t_Mo_mayMeet_28
abbrev t_Mo_mayMeet_26 : List UInt8 := 96 :: t_Mo_mayMeet_27
abbrev t_Mo_mayMeet_25 : List UInt8 := 28 :: t_Mo_mayMeet_26
abbrev t_Mo_mayMeet_24 : List UInt8 := 104 :: t_Mo_mayMeet_25
abbrev t_Mo_mayMeet_23 : List UInt8 := 27 :: t_Mo_mayMeet_24
abbrev t_Mo_mayMeet_21 : List UInt8 := 16 :: 16 :: t_Mo_mayMeet_23
abbrev t_Mo_mayMeet_18 : List UInt8 := 180 :: 0 :: 64 :: t_Mo_mayMeet_21
abbrev t_Mo_mayMeet_17 : List UInt8 := 42 :: t_Mo_mayMeet_18
abbrev t_Mo_mayMeet_14 : List UInt8 := 159 :: 0 :: 21 :: t_Mo_mayMeet_17
abbrev t_Mo_mayMeet_12 : List UInt8 := 16 :: 15 :: t_Mo_mayMeet_14
abbrev t_Mo_mayMeet_11 : List UInt8 := 28 :: t_Mo_mayMeet_12
abbrev t_Mo_mayMeet_8 : List UInt8 := 159 :: 0 :: 27 :: t_Mo_mayMeet_11
abbrev t_Mo_mayMeet_6 : List UInt8 := 16 :: 15 :: t_Mo_mayMeet_8
abbrev t_Mo_mayMeet_5 : List UInt8 := 27 :: t_Mo_mayMeet_6
abbrev t_Mo_mayMeet_2 : List UInt8 := 159 :: 0 :: 29 :: t_Mo_mayMeet_5
abbrev t_Mo_mayMeet_1 : List UInt8 := 28 :: t_Mo_mayMeet_2
abbrev t_Mo_mayMeet_0 : List UInt8 := 27 :: t_Mo_mayMeet_1
theorem a_Mo_mayMeet_0 : dk_at b_Mo_mayMeet 0 t_Mo_mayMeet_0 := dk_start (by decide +kernel)
theorem a_Mo_mayMeet_1 : dk_at b_Mo_mayMeet 1 t_Mo_mayMeet_1 := dk_go 1 a_Mo_mayMeet_0 rfl
theorem a_Mo_mayMeet_2 : dk_at b_Mo_mayMeet 2 t_Mo_mayMeet_2 := dk_go 1 a_Mo_mayMeet_1 rfl
theorem a_Mo_mayMeet_5 : dk_at b_Mo_mayMeet 5 t_Mo_mayMeet_5 := dk_go 3 a_Mo_mayMeet_2 rfl
theorem a_Mo_mayMeet_6 : dk_at b_Mo_mayMeet 6 t_Mo_mayMeet_6 := dk_go 1 a_Mo_mayMeet_5 rfl
theorem a_Mo_mayMeet_8 : dk_at b_Mo_mayMeet 8 t_Mo_mayMeet_8 := dk_go 2 a_Mo_mayMeet_6 rfl
theorem a_Mo_mayMeet_11 : dk_at b_Mo_mayMeet 11 t_Mo_mayMeet_11 := dk_go 3 a_Mo_mayMeet_8 rfl
theorem a_Mo_mayMeet_12 : dk_at b_Mo_mayMeet 12 t_Mo_mayMeet_12 := dk_go 1 a_Mo_mayMeet_11 rfl
theorem a_Mo_mayMeet_14 : dk_at b_Mo_mayMeet 14 t_Mo_mayMeet_14 := dk_go 2 a_Mo_mayMeet_12 rfl
theorem a_Mo_mayMeet_17 : dk_at b_Mo_mayMeet 17 t_Mo_mayMeet_17 := dk_go 3 a_Mo_mayMeet_14 rfl
theorem a_Mo_mayMeet_18 : dk_at b_Mo_mayMeet 18 t_Mo_mayMeet_18 := dk_go 1 a_Mo_mayMeet_17 rfl
theorem a_Mo_mayMeet_21 : dk_at b_Mo_mayMeet 21 t_Mo_mayMeet_21 := dk_go 3 a_Mo_mayMeet_18 rfl
theorem a_Mo_mayMeet_23 : dk_at b_Mo_mayMeet 23 t_Mo_mayMeet_23 := dk_go 2 a_Mo_mayMeet_21 rfl
theorem a_Mo_mayMeet_24 : dk_at b_Mo_mayMeet 24 t_Mo_mayMeet_24 := dk_go 1 a_Mo_mayMeet_23 rfl
theorem a_Mo_mayMeet_25 : dk_at b_Mo_mayMeet 25 t_Mo_mayMeet_25 := dk_go 1 a_Mo_mayMeet_24 rfl
theorem a_Mo_mayMeet_26 : dk_at b_Mo_mayMeet 26 t_Mo_mayMeet_26 := dk_go 1 a_Mo_mayMeet_25 rfl
theorem a_Mo_mayMeet_27 : dk_at b_Mo_mayMeet 27 t_Mo_mayMeet_27 := dk_go 1 a_Mo_mayMeet_26 rfl
theorem a_Mo_mayMeet_28 : dk_at b_Mo_mayMeet 28 t_Mo_mayMeet_28 := dk_go 1 a_Mo_mayMeet_27 rfl
theorem a_Mo_mayMeet_31 : dk_at b_Mo_mayMeet 31 t_Mo_mayMeet_31 := dk_go 3 a_Mo_mayMeet_28 rfl
theorem a_Mo_mayMeet_32 : dk_at b_Mo_mayMeet 32 t_Mo_mayMeet_32 := dk_go 1 a_Mo_mayMeet_31 rfl
theorem a_Mo_mayMeet_35 : dk_at b_Mo_mayMeet 35 t_Mo_mayMeet_35 := dk_go 3 a_Mo_mayMeet_32 rfl
theorem a_Mo_mayMeet_36 : dk_at b_Mo_mayMeet 36 t_Mo_mayMeet_36 := dk_go 1 a_Mo_mayMeet_35 rfl
theorem d_Mo_mayMeet_0 : decode b_Mo_mayMeet 0 = .ok (.iload_n 1, 1) := dk_0 a_Mo_mayMeet_0 (dko_27 _)
theorem d_Mo_mayMeet_1 : decode b_Mo_mayMeet 1 = .ok (.iload_n 2, 1) := dk_0 a_Mo_mayMeet_1 (dko_28 _)
theorem d_Mo_mayMeet_2 : decode b_Mo_mayMeet 2 = .ok (.if_icmp .eq 29, 3) := dk_S2 a_Mo_mayMeet_2 (dko_159 _) (by decide +kernel)
theorem d_Mo_mayMeet_5 : decode b_Mo_mayMeet 5 = .ok (.iload_n 1, 1) := dk_0 a_Mo_mayMeet_5 (dko_27 _)
theorem d_Mo_mayMeet_6 : decode b_Mo_mayMeet 6 = .ok (.bipush 15, 2) := dk_S1 a_Mo_mayMeet_6 (dko_16 _) (by decide +kernel)
theorem d_Mo_mayMeet_8 : decode b_Mo_mayMeet 8 = .ok (.if_icmp .eq 27, 3) := dk_S2 a_Mo_mayMeet_8 (dko_159 _) (by decide +kernel)
theorem d_Mo_mayMeet_11 : decode b_Mo_mayMeet 11 = .ok (.iload_n 2, 1) := dk_0 a_Mo_mayMeet_11 (dko_28 _)
theorem d_Mo_mayMeet_12 : decode b_Mo_mayMeet 12 = .ok (.bipush 15, 2) := dk_S1 a_Mo_mayMeet_12 (dko_16 _) (by decide +kernel)
theorem d_Mo_mayMeet_14 : decode b_Mo_mayMeet 14 = .ok (.if_icmp .eq 21, 3) := dk_S2 a_Mo_mayMeet_14 (dko_159 _) (by decide +kernel)
theorem d_Mo_mayMeet_17 : decode b_Mo_mayMeet 17 = .ok (.aload_n 0, 1) := dk_0 a_Mo_mayMeet_17 (dko_42 _)
theorem d_Mo_mayMeet_18 : decode b_Mo_mayMeet 18 = .ok (.getfield 64, 3) := dk_U2 a_Mo_mayMeet_18 (dko_180 _) rfl
theorem d_Mo_mayMeet_21 : decode b_Mo_mayMeet 21 = .ok (.bipush 16, 2) := dk_S1 a_Mo_mayMeet_21 (dko_16 _) (by decide +kernel)
theorem d_Mo_mayMeet_23 : decode b_Mo_mayMeet 23 = .ok (.iload_n 1, 1) := dk_0 a_Mo_mayMeet_23 (dko_27 _)
theorem d_Mo_mayMeet_24 : decode b_Mo_mayMeet 24 = .ok (.imul, 1) := dk_0 a_Mo_mayMeet_24 (dko_104 _)
theorem d_Mo_mayMeet_25 : decode b_Mo_mayMeet 25 = .ok (.iload_n 2, 1) := dk_0 a_Mo_mayMeet_25 (dko_28 _)
theorem d_Mo_mayMeet_26 : decode b_Mo_mayMeet 26 = .ok (.iadd, 1) := dk_0 a_Mo_mayMeet_26 (dko_96 _)
theorem d_Mo_mayMeet_27 : decode b_Mo_mayMeet 27 = .ok (.baload, 1) := dk_0 a_Mo_mayMeet_27 (dko_51 _)
theorem d_Mo_mayMeet_28 : decode b_Mo_mayMeet 28 = .ok (.ifCond .eq 7, 3) := dk_S2 a_Mo_mayMeet_28 (dko_153 _) (by decide +kernel)
theorem d_Mo_mayMeet_31 : decode b_Mo_mayMeet 31 = .ok (.iconst 1, 1) := dk_0 a_Mo_mayMeet_31 (dko_4 _)
theorem d_Mo_mayMeet_32 : decode b_Mo_mayMeet 32 = .ok (.goto 4, 3) := dk_S2 a_Mo_mayMeet_32 (dko_167 _) (by decide +kernel)
theorem d_Mo_mayMeet_35 : decode b_Mo_mayMeet 35 = .ok (.iconst 0, 1) := dk_0 a_Mo_mayMeet_35 (dko_3 _)
theorem d_Mo_mayMeet_36 : decode b_Mo_mayMeet 36 = .ok (.ireturn, 1) := dk_0 a_Mo_mayMeet_36 (dko_172 _)
set_option maxHeartbeats 4000000 in
set_option maxRecDepth 100000 in
theorem ok_Mo_mayMeet (pc : Nat) : OpS mt mi_Mo_mayMeet pc (cs_Mo_mayMeet pc) := (os_n (os_n (os_n (os_n (os_l (so_iload_n d_Mo_mayMeet_0 rfl)) (os_l (so_iload_n d_Mo_mayMeet_1 rfl))) (os_n (os_l (so_iceq d_Mo_mayMeet_2 (by decide))) (os_n (os_l (so_iload_n d_Mo_mayMeet_5 rfl)) (os_l (so_bipush d_Mo_mayMeet_6 (by decide)))))) (os_n (os_n (os_l (so_iceq d_Mo_mayMeet_8 (by decide))) (os_n (os_l (so_iload_n d_Mo_mayMeet_11 rfl)) (os_l (so_bipush d_Mo_mayMeet_12 (by decide))))) (os_n (os_l (so_iceq d_Mo_mayMeet_14 (by decide))) (os_n (os_l (so_aload_n d_Mo_mayMeet_17 rfl)) (os_l (so_get (C := R_Mo) (T := F_Mo) (N := 87) (j := 18) in_Mo rfl (by decide) mw_1812 d_Mo_mayMeet_18)))))) (os_n (os_n (os_n (os_l (so_bipush d_Mo_mayMeet_21 (by decide))) (os_l (so_iload_n d_Mo_mayMeet_23 rfl))) (os_n (os_l (so_imul d_Mo_mayMeet_24)) (os_n (os_l (so_iload_n d_Mo_mayMeet_25 rfl)) (os_l (so_iadd d_Mo_mayMeet_26))))) (os_n (os_n (os_l (so_baload d_Mo_mayMeet_27)) (os_n (os_l (so_ifeq d_Mo_mayMeet_28 (by decide))) (os_l (so_iconst d_Mo_mayMeet_31 (by decide))))) (os_n (os_l (so_goto d_Mo_mayMeet_32 (by decide))) (os_n (os_l (so_iconst d_Mo_mayMeet_35 (by decide))) (os_l (so_zreturn rfl d_Mo_mayMeet_36)))))))
abbrev t_Mo_isCalm_139 : List UInt8 := 172 :: []
abbrev t_Mo_isCalm_138 : List UInt8 := 4 :: t_Mo_isCalm_139
abbrev t_Mo_isCalm_135 : List UInt8 := 167 :: 255 :: 152 :: t_Mo_isCalm_138
abbrev t_Mo_isCalm_132 : List UInt8 := 132 :: 2 :: 1 :: t_Mo_isCalm_135
abbrev t_Mo_isCalm_129 : List UInt8 := 167 :: 255 :: 173 :: t_Mo_isCalm_132
abbrev t_Mo_isCalm_126 : List UInt8 := 132 :: 3 :: 1 :: t_Mo_isCalm_129
abbrev t_Mo_isCalm_123 : List UInt8 := 167 :: 255 :: 190 :: t_Mo_isCalm_126
abbrev t_Mo_isCalm_120 : List UInt8 := 132 :: 4 :: 1 :: t_Mo_isCalm_123
abbrev t_Mo_isCalm_119 : List UInt8 := 172 :: t_Mo_isCalm_120
abbrev t_Mo_isCalm_118 : List UInt8 := 3 :: t_Mo_isCalm_119
abbrev t_Mo_isCalm_115 : List UInt8 := 181 :: 1 :: 100 :: t_Mo_isCalm_118
abbrev t_Mo_isCalm_113 : List UInt8 := 21 :: 4 :: t_Mo_isCalm_115
abbrev t_Mo_isCalm_112 : List UInt8 := 42 :: t_Mo_isCalm_113
abbrev t_Mo_isCalm_109 : List UInt8 := 181 :: 1 :: 97 :: t_Mo_isCalm_112
abbrev t_Mo_isCalm_108 : List UInt8 := 29 :: t_Mo_isCalm_109
abbrev t_Mo_isCalm_107 : List UInt8 := 42 :: t_Mo_isCalm_108
abbrev t_Mo_isCalm_104 : List UInt8 := 181 :: 1 :: 94 :: t_Mo_isCalm_107
abbrev t_Mo_isCalm_103 : List UInt8 := 28 :: t_Mo_isCalm_104
abbrev t_Mo_isCalm_102 : List UInt8 := 42 :: t_Mo_isCalm_103
abbrev t_Mo_isCalm_99 : List UInt8 := 181 :: 1 :: 91 :: t_Mo_isCalm_102
abbrev t_Mo_isCalm_98 : List UInt8 := 27 :: t_Mo_isCalm_99
abbrev t_Mo_isCalm_97 : List UInt8 := 42 :: t_Mo_isCalm_98
abbrev t_Mo_isCalm_94 : List UInt8 := 154 :: 0 :: 26 :: t_Mo_isCalm_97
abbrev t_Mo_isCalm_91 : List UInt8 := 182 :: 1 :: 87 :: t_Mo_isCalm_94
abbrev t_Mo_isCalm_89 : List UInt8 := 21 :: 4 :: t_Mo_isCalm_91
abbrev t_Mo_isCalm_88 : List UInt8 := 29 :: t_Mo_isCalm_89
abbrev t_Mo_isCalm_87 : List UInt8 := 42 :: t_Mo_isCalm_88
abbrev t_Mo_isCalm_84 : List UInt8 := 153 :: 0 :: 36 :: t_Mo_isCalm_87
abbrev t_Mo_isCalm_83 : List UInt8 := 148 :: t_Mo_isCalm_84
abbrev t_Mo_isCalm_82 : List UInt8 := 9 :: t_Mo_isCalm_83
abbrev t_Mo_isCalm_81 : List UInt8 := 127 :: t_Mo_isCalm_82
abbrev t_Mo_isCalm_80 : List UInt8 := 10 :: t_Mo_isCalm_81
abbrev t_Mo_isCalm_79 : List UInt8 := 123 :: t_Mo_isCalm_80
abbrev t_Mo_isCalm_78 : List UInt8 := 28 :: t_Mo_isCalm_79
abbrev t_Mo_isCalm_77 : List UInt8 := 127 :: t_Mo_isCalm_78
abbrev t_Mo_isCalm_76 : List UInt8 := 47 :: t_Mo_isCalm_77
abbrev t_Mo_isCalm_74 : List UInt8 := 21 :: 4 :: t_Mo_isCalm_76
abbrev t_Mo_isCalm_71 : List UInt8 := 180 :: 0 :: 129 :: t_Mo_isCalm_74
abbrev t_Mo_isCalm_70 : List UInt8 := 42 :: t_Mo_isCalm_71
abbrev t_Mo_isCalm_69 : List UInt8 := 47 :: t_Mo_isCalm_70
abbrev t_Mo_isCalm_68 : List UInt8 := 29 :: t_Mo_isCalm_69
abbrev t_Mo_isCalm_65 : List UInt8 := 180 :: 0 :: 129 :: t_Mo_isCalm_68
abbrev t_Mo_isCalm_64 : List UInt8 := 42 :: t_Mo_isCalm_65
abbrev t_Mo_isCalm_61 : List UInt8 := 162 :: 0 :: 65 :: t_Mo_isCalm_64
abbrev t_Mo_isCalm_59 : List UInt8 := 16 :: 16 :: t_Mo_isCalm_61
abbrev t_Mo_isCalm_57 : List UInt8 := 21 :: 4 :: t_Mo_isCalm_59
abbrev t_Mo_isCalm_55 : List UInt8 := 54 :: 4 :: t_Mo_isCalm_57
abbrev t_Mo_isCalm_54 : List UInt8 := 96 :: t_Mo_isCalm_55
abbrev t_Mo_isCalm_53 : List UInt8 := 4 :: t_Mo_isCalm_54
abbrev t_Mo_isCalm_52 : List UInt8 := 29 :: t_Mo_isCalm_53
abbrev t_Mo_isCalm_49 : List UInt8 := 162 :: 0 :: 83 :: t_Mo_isCalm_52
abbrev t_Mo_isCalm_47 : List UInt8 := 16 :: 16 :: t_Mo_isCalm_49
abbrev t_Mo_isCalm_46 : List UInt8 := 29 :: t_Mo_isCalm_47
abbrev t_Mo_isCalm_45 : List UInt8 := 62 :: t_Mo_isCalm_46
abbrev t_Mo_isCalm_44 : List UInt8 := 4 :: t_Mo_isCalm_45
abbrev t_Mo_isCalm_41 : List UInt8 := 162 :: 0 :: 97 :: t_Mo_isCalm_44
abbrev t_Mo_isCalm_40 : List UInt8 := 96 :: t_Mo_isCalm_41
abbrev t_Mo_isCalm_37 : List UInt8 := 180 :: 1 :: 25 :: t_Mo_isCalm_40
abbrev t_Mo_isCalm_36 : List UInt8 := 42 :: t_Mo_isCalm_37
abbrev t_Mo_isCalm_33 : List UInt8 := 180 :: 1 :: 22 :: t_Mo_isCalm_36
abbrev t_Mo_isCalm_32 : List UInt8 := 42 :: t_Mo_isCalm_33
abbrev t_Mo_isCalm_31 : List UInt8 := 28 :: t_Mo_isCalm_32
abbrev t_Mo_isCalm_30 : List UInt8 := 61 :: t_Mo_isCalm_31
abbrev t_Mo_isCalm_29 : List UInt8 := 3 :: t_Mo_isCalm_30
abbrev t_Mo_isCalm_26 : List UInt8 := 167 :: 255 :: 236 :: t_Mo_isCalm_29
abbrev t_Mo_isCalm_23 : List UInt8 := 132 :: 2 :: 1 :: t_Mo_isCalm_26
abbrev t_Mo_isCalm_22 : List UInt8 := 80 :: t_Mo_isCalm_23
abbrev t_Mo_isCalm_19 : List UInt8 := 182 :: 1 :: 83 :: t_Mo_isCalm_22
abbrev t_Mo_isCalm_18 : List UInt8 := 28 :: t_Mo_isCalm_19
abbrev t_Mo_isCalm_17 : List UInt8 := 42 :: t_Mo_isCalm_18
abbrev t_Mo_isCalm_16 : List UInt8 := 28 :: t_Mo_isCalm_17
abbrev t_Mo_isCalm_13 : List UInt8 := 180 :: 0 :: 129 :: t_Mo_isCalm_16
abbrev t_Mo_isCalm_12 : List UInt8 := 42 :: t_Mo_isCalm_13
abbrev t_Mo_isCalm_9 : List UInt8 := 162 :: 0 :: 20 :: t_Mo_isCalm_12
abbrev t_Mo_isCalm_7 : List UInt8 := 16 :: 16 :: t_Mo_isCalm_9
abbrev t_Mo_isCalm_6 : List UInt8 := 28 :: t_Mo_isCalm_7
abbrev t_Mo_isCalm_5 : List UInt8 := 61 :: t_Mo_isCalm_6
abbrev t_Mo_isCalm_4 : List UInt8 := 4 :: t_Mo_isCalm_5
abbrev t_Mo_isCalm_1 : List UInt8 := 182 :: 1 :: 80 :: t_Mo_isCalm_4
abbrev t_Mo_isCalm_0 : List UInt8 := 42 :: t_Mo_isCalm_1
theorem a_Mo_isCalm_0 : dk_at b_Mo_isCalm 0 t_Mo_isCalm_0 := dk_start (by decide +kernel)
theorem a_Mo_isCalm_1 : dk_at b_Mo_isCalm 1 t_Mo_isCalm_1 := dk_go 1 a_Mo_isCalm_0 rfl
theorem a_Mo_isCalm_4 : dk_at b_Mo_isCalm 4 t_Mo_isCalm_4 := dk_go 3 a_Mo_isCalm_1 rfl
theorem a_Mo_isCalm_5 : dk_at b_Mo_isCalm 5 t_Mo_isCalm_5 := dk_go 1 a_Mo_isCalm_4 rfl
theorem a_Mo_isCalm_6 : dk_at b_Mo_isCalm 6 t_Mo_isCalm_6 := dk_go 1 a_Mo_isCalm_5 rfl
theorem a_Mo_isCalm_7 : dk_at b_Mo_isCalm 7 t_Mo_isCalm_7 := dk_go 1 a_Mo_isCalm_6 rfl
theorem a_Mo_isCalm_9 : dk_at b_Mo_isCalm 9 t_Mo_isCalm_9 := dk_go 2 a_Mo_isCalm_7 rfl
theorem a_Mo_isCalm_12 : dk_at b_Mo_isCalm 12 t_Mo_isCalm_12 := dk_go 3 a_Mo_isCalm_9 rfl
theorem a_Mo_isCalm_13 : dk_at b_Mo_isCalm 13 t_Mo_isCalm_13 := dk_go 1 a_Mo_isCalm_12 rfl
theorem a_Mo_isCalm_16 : dk_at b_Mo_isCalm 16 t_Mo_isCalm_16 := dk_go 3 a_Mo_isCalm_13 rfl
theorem a_Mo_isCalm_17 : dk_at b_Mo_isCalm 17 t_Mo_isCalm_17 := dk_go 1 a_Mo_isCalm_16 rfl
theorem a_Mo_isCalm_18 : dk_at b_Mo_isCalm 18 t_Mo_isCalm_18 := dk_go 1 a_Mo_isCalm_17 rfl
theorem a_Mo_isCalm_19 : dk_at b_Mo_isCalm 19 t_Mo_isCalm_19 := dk_go 1 a_Mo_isCalm_18 rfl
theorem a_Mo_isCalm_22 : dk_at b_Mo_isCalm 22 t_Mo_isCalm_22 := dk_go 3 a_Mo_isCalm_19 rfl
theorem a_Mo_isCalm_23 : dk_at b_Mo_isCalm 23 t_Mo_isCalm_23 := dk_go 1 a_Mo_isCalm_22 rfl
theorem a_Mo_isCalm_26 : dk_at b_Mo_isCalm 26 t_Mo_isCalm_26 := dk_go 3 a_Mo_isCalm_23 rfl
theorem a_Mo_isCalm_29 : dk_at b_Mo_isCalm 29 t_Mo_isCalm_29 := dk_go 3 a_Mo_isCalm_26 rfl
theorem a_Mo_isCalm_30 : dk_at b_Mo_isCalm 30 t_Mo_isCalm_30 := dk_go 1 a_Mo_isCalm_29 rfl
theorem a_Mo_isCalm_31 : dk_at b_Mo_isCalm 31 t_Mo_isCalm_31 := dk_go 1 a_Mo_isCalm_30 rfl
theorem a_Mo_isCalm_32 : dk_at b_Mo_isCalm 32 t_Mo_isCalm_32 := dk_go 1 a_Mo_isCalm_31 rfl
theorem a_Mo_isCalm_33 : dk_at b_Mo_isCalm 33 t_Mo_isCalm_33 := dk_go 1 a_Mo_isCalm_32 rfl
theorem a_Mo_isCalm_36 : dk_at b_Mo_isCalm 36 t_Mo_isCalm_36 := dk_go 3 a_Mo_isCalm_33 rfl
theorem a_Mo_isCalm_37 : dk_at b_Mo_isCalm 37 t_Mo_isCalm_37 := dk_go 1 a_Mo_isCalm_36 rfl
theorem a_Mo_isCalm_40 : dk_at b_Mo_isCalm 40 t_Mo_isCalm_40 := dk_go 3 a_Mo_isCalm_37 rfl
theorem a_Mo_isCalm_41 : dk_at b_Mo_isCalm 41 t_Mo_isCalm_41 := dk_go 1 a_Mo_isCalm_40 rfl
theorem a_Mo_isCalm_44 : dk_at b_Mo_isCalm 44 t_Mo_isCalm_44 := dk_go 3 a_Mo_isCalm_41 rfl
theorem a_Mo_isCalm_45 : dk_at b_Mo_isCalm 45 t_Mo_isCalm_45 := dk_go 1 a_Mo_isCalm_44 rfl
theorem a_Mo_isCalm_46 : dk_at b_Mo_isCalm 46 t_Mo_isCalm_46 := dk_go 1 a_Mo_isCalm_45 rfl
theorem a_Mo_isCalm_47 : dk_at b_Mo_isCalm 47 t_Mo_isCalm_47 := dk_go 1 a_Mo_isCalm_46 rfl
theorem a_Mo_isCalm_49 : dk_at b_Mo_isCalm 49 t_Mo_isCalm_49 := dk_go 2 a_Mo_isCalm_47 rfl
theorem a_Mo_isCalm_52 : dk_at b_Mo_isCalm 52 t_Mo_isCalm_52 := dk_go 3 a_Mo_isCalm_49 rfl
theorem a_Mo_isCalm_53 : dk_at b_Mo_isCalm 53 t_Mo_isCalm_53 := dk_go 1 a_Mo_isCalm_52 rfl
theorem a_Mo_isCalm_54 : dk_at b_Mo_isCalm 54 t_Mo_isCalm_54 := dk_go 1 a_Mo_isCalm_53 rfl
theorem a_Mo_isCalm_55 : dk_at b_Mo_isCalm 55 t_Mo_isCalm_55 := dk_go 1 a_Mo_isCalm_54 rfl
theorem a_Mo_isCalm_57 : dk_at b_Mo_isCalm 57 t_Mo_isCalm_57 := dk_go 2 a_Mo_isCalm_55 rfl
theorem a_Mo_isCalm_59 : dk_at b_Mo_isCalm 59 t_Mo_isCalm_59 := dk_go 2 a_Mo_isCalm_57 rfl
theorem a_Mo_isCalm_61 : dk_at b_Mo_isCalm 61 t_Mo_isCalm_61 := dk_go 2 a_Mo_isCalm_59 rfl
theorem a_Mo_isCalm_64 : dk_at b_Mo_isCalm 64 t_Mo_isCalm_64 := dk_go 3 a_Mo_isCalm_61 rfl
theorem a_Mo_isCalm_65 : dk_at b_Mo_isCalm 65 t_Mo_isCalm_65 := dk_go 1 a_Mo_isCalm_64 rfl
theorem a_Mo_isCalm_68 : dk_at b_Mo_isCalm 68 t_Mo_isCalm_68 := dk_go 3 a_Mo_isCalm_65 rfl
theorem a_Mo_isCalm_69 : dk_at b_Mo_isCalm 69 t_Mo_isCalm_69 := dk_go 1 a_Mo_isCalm_68 rfl
theorem a_Mo_isCalm_70 : dk_at b_Mo_isCalm 70 t_Mo_isCalm_70 := dk_go 1 a_Mo_isCalm_69 rfl
theorem a_Mo_isCalm_71 : dk_at b_Mo_isCalm 71 t_Mo_isCalm_71 := dk_go 1 a_Mo_isCalm_70 rfl
theorem a_Mo_isCalm_74 : dk_at b_Mo_isCalm 74 t_Mo_isCalm_74 := dk_go 3 a_Mo_isCalm_71 rfl
theorem a_Mo_isCalm_76 : dk_at b_Mo_isCalm 76 t_Mo_isCalm_76 := dk_go 2 a_Mo_isCalm_74 rfl
theorem a_Mo_isCalm_77 : dk_at b_Mo_isCalm 77 t_Mo_isCalm_77 := dk_go 1 a_Mo_isCalm_76 rfl
theorem a_Mo_isCalm_78 : dk_at b_Mo_isCalm 78 t_Mo_isCalm_78 := dk_go 1 a_Mo_isCalm_77 rfl
theorem a_Mo_isCalm_79 : dk_at b_Mo_isCalm 79 t_Mo_isCalm_79 := dk_go 1 a_Mo_isCalm_78 rfl
theorem a_Mo_isCalm_80 : dk_at b_Mo_isCalm 80 t_Mo_isCalm_80 := dk_go 1 a_Mo_isCalm_79 rfl
theorem a_Mo_isCalm_81 : dk_at b_Mo_isCalm 81 t_Mo_isCalm_81 := dk_go 1 a_Mo_isCalm_80 rfl
theorem a_Mo_isCalm_82 : dk_at b_Mo_isCalm 82 t_Mo_isCalm_82 := dk_go 1 a_Mo_isCalm_81 rfl
theorem a_Mo_isCalm_83 : dk_at b_Mo_isCalm 83 t_Mo_isCalm_83 := dk_go 1 a_Mo_isCalm_82 rfl
theorem a_Mo_isCalm_84 : dk_at b_Mo_isCalm 84 t_Mo_isCalm_84 := dk_go 1 a_Mo_isCalm_83 rfl
theorem a_Mo_isCalm_87 : dk_at b_Mo_isCalm 87 t_Mo_isCalm_87 := dk_go 3 a_Mo_isCalm_84 rfl
theorem a_Mo_isCalm_88 : dk_at b_Mo_isCalm 88 t_Mo_isCalm_88 := dk_go 1 a_Mo_isCalm_87 rfl
theorem a_Mo_isCalm_89 : dk_at b_Mo_isCalm 89 t_Mo_isCalm_89 := dk_go 1 a_Mo_isCalm_88 rfl
theorem a_Mo_isCalm_91 : dk_at b_Mo_isCalm 91 t_Mo_isCalm_91 := dk_go 2 a_Mo_isCalm_89 rfl
theorem a_Mo_isCalm_94 : dk_at b_Mo_isCalm 94 t_Mo_isCalm_94 := dk_go 3 a_Mo_isCalm_91 rfl
theorem a_Mo_isCalm_97 : dk_at b_Mo_isCalm 97 t_Mo_isCalm_97 := dk_go 3 a_Mo_isCalm_94 rfl
theorem a_Mo_isCalm_98 : dk_at b_Mo_isCalm 98 t_Mo_isCalm_98 := dk_go 1 a_Mo_isCalm_97 rfl
theorem a_Mo_isCalm_99 : dk_at b_Mo_isCalm 99 t_Mo_isCalm_99 := dk_go 1 a_Mo_isCalm_98 rfl
theorem a_Mo_isCalm_102 : dk_at b_Mo_isCalm 102 t_Mo_isCalm_102 := dk_go 3 a_Mo_isCalm_99 rfl
theorem a_Mo_isCalm_103 : dk_at b_Mo_isCalm 103 t_Mo_isCalm_103 := dk_go 1 a_Mo_isCalm_102 rfl
theorem a_Mo_isCalm_104 : dk_at b_Mo_isCalm 104 t_Mo_isCalm_104 := dk_go 1 a_Mo_isCalm_103 rfl
theorem a_Mo_isCalm_107 : dk_at b_Mo_isCalm 107 t_Mo_isCalm_107 := dk_go 3 a_Mo_isCalm_104 rfl
theorem a_Mo_isCalm_108 : dk_at b_Mo_isCalm 108 t_Mo_isCalm_108 := dk_go 1 a_Mo_isCalm_107 rfl
theorem a_Mo_isCalm_109 : dk_at b_Mo_isCalm 109 t_Mo_isCalm_109 := dk_go 1 a_Mo_isCalm_108 rfl
theorem a_Mo_isCalm_112 : dk_at b_Mo_isCalm 112 t_Mo_isCalm_112 := dk_go 3 a_Mo_isCalm_109 rfl
theorem a_Mo_isCalm_113 : dk_at b_Mo_isCalm 113 t_Mo_isCalm_113 := dk_go 1 a_Mo_isCalm_112 rfl
theorem a_Mo_isCalm_115 : dk_at b_Mo_isCalm 115 t_Mo_isCalm_115 := dk_go 2 a_Mo_isCalm_113 rfl
theorem a_Mo_isCalm_118 : dk_at b_Mo_isCalm 118 t_Mo_isCalm_118 := dk_go 3 a_Mo_isCalm_115 rfl
theorem a_Mo_isCalm_119 : dk_at b_Mo_isCalm 119 t_Mo_isCalm_119 := dk_go 1 a_Mo_isCalm_118 rfl
theorem a_Mo_isCalm_120 : dk_at b_Mo_isCalm 120 t_Mo_isCalm_120 := dk_go 1 a_Mo_isCalm_119 rfl
theorem a_Mo_isCalm_123 : dk_at b_Mo_isCalm 123 t_Mo_isCalm_123 := dk_go 3 a_Mo_isCalm_120 rfl
theorem a_Mo_isCalm_126 : dk_at b_Mo_isCalm 126 t_Mo_isCalm_126 := dk_go 3 a_Mo_isCalm_123 rfl
theorem a_Mo_isCalm_129 : dk_at b_Mo_isCalm 129 t_Mo_isCalm_129 := dk_go 3 a_Mo_isCalm_126 rfl
theorem a_Mo_isCalm_132 : dk_at b_Mo_isCalm 132 t_Mo_isCalm_132 := dk_go 3 a_Mo_isCalm_129 rfl
theorem a_Mo_isCalm_135 : dk_at b_Mo_isCalm 135 t_Mo_isCalm_135 := dk_go 3 a_Mo_isCalm_132 rfl
theorem a_Mo_isCalm_138 : dk_at b_Mo_isCalm 138 t_Mo_isCalm_138 := dk_go 3 a_Mo_isCalm_135 rfl
theorem a_Mo_isCalm_139 : dk_at b_Mo_isCalm 139 t_Mo_isCalm_139 := dk_go 1 a_Mo_isCalm_138 rfl
theorem d_Mo_isCalm_0 : decode b_Mo_isCalm 0 = .ok (.aload_n 0, 1) := dk_0 a_Mo_isCalm_0 (dko_42 _)
theorem d_Mo_isCalm_1 : decode b_Mo_isCalm 1 = .ok (.invokevirtual 336, 3) := dk_U2 a_Mo_isCalm_1 (dko_182 _) rfl
theorem d_Mo_isCalm_4 : decode b_Mo_isCalm 4 = .ok (.iconst 1, 1) := dk_0 a_Mo_isCalm_4 (dko_4 _)
theorem d_Mo_isCalm_5 : decode b_Mo_isCalm 5 = .ok (.istore_n 2, 1) := dk_0 a_Mo_isCalm_5 (dko_61 _)
theorem d_Mo_isCalm_6 : decode b_Mo_isCalm 6 = .ok (.iload_n 2, 1) := dk_0 a_Mo_isCalm_6 (dko_28 _)
theorem d_Mo_isCalm_7 : decode b_Mo_isCalm 7 = .ok (.bipush 16, 2) := dk_S1 a_Mo_isCalm_7 (dko_16 _) (by decide +kernel)
theorem d_Mo_isCalm_9 : decode b_Mo_isCalm 9 = .ok (.if_icmp .ge 20, 3) := dk_S2 a_Mo_isCalm_9 (dko_162 _) (by decide +kernel)
theorem d_Mo_isCalm_12 : decode b_Mo_isCalm 12 = .ok (.aload_n 0, 1) := dk_0 a_Mo_isCalm_12 (dko_42 _)
theorem d_Mo_isCalm_13 : decode b_Mo_isCalm 13 = .ok (.getfield 129, 3) := dk_U2 a_Mo_isCalm_13 (dko_180 _) rfl
theorem d_Mo_isCalm_16 : decode b_Mo_isCalm 16 = .ok (.iload_n 2, 1) := dk_0 a_Mo_isCalm_16 (dko_28 _)
theorem d_Mo_isCalm_17 : decode b_Mo_isCalm 17 = .ok (.aload_n 0, 1) := dk_0 a_Mo_isCalm_17 (dko_42 _)
theorem d_Mo_isCalm_18 : decode b_Mo_isCalm 18 = .ok (.iload_n 2, 1) := dk_0 a_Mo_isCalm_18 (dko_28 _)
theorem d_Mo_isCalm_19 : decode b_Mo_isCalm 19 = .ok (.invokevirtual 339, 3) := dk_U2 a_Mo_isCalm_19 (dko_182 _) rfl
theorem d_Mo_isCalm_22 : decode b_Mo_isCalm 22 = .ok (.lastore, 1) := dk_0 a_Mo_isCalm_22 (dko_80 _)
theorem d_Mo_isCalm_23 : decode b_Mo_isCalm 23 = .ok (.iinc 2 1, 3) := dk_US a_Mo_isCalm_23 (dko_132 _) (by decide +kernel)
theorem d_Mo_isCalm_26 : decode b_Mo_isCalm 26 = .ok (.goto (-20), 3) := dk_S2 a_Mo_isCalm_26 (dko_167 _) (by decide +kernel)
theorem d_Mo_isCalm_29 : decode b_Mo_isCalm 29 = .ok (.iconst 0, 1) := dk_0 a_Mo_isCalm_29 (dko_3 _)
theorem d_Mo_isCalm_30 : decode b_Mo_isCalm 30 = .ok (.istore_n 2, 1) := dk_0 a_Mo_isCalm_30 (dko_61 _)
theorem d_Mo_isCalm_31 : decode b_Mo_isCalm 31 = .ok (.iload_n 2, 1) := dk_0 a_Mo_isCalm_31 (dko_28 _)
theorem d_Mo_isCalm_32 : decode b_Mo_isCalm 32 = .ok (.aload_n 0, 1) := dk_0 a_Mo_isCalm_32 (dko_42 _)
theorem d_Mo_isCalm_33 : decode b_Mo_isCalm 33 = .ok (.getfield 278, 3) := dk_U2 a_Mo_isCalm_33 (dko_180 _) rfl
theorem d_Mo_isCalm_36 : decode b_Mo_isCalm 36 = .ok (.aload_n 0, 1) := dk_0 a_Mo_isCalm_36 (dko_42 _)
theorem d_Mo_isCalm_37 : decode b_Mo_isCalm 37 = .ok (.getfield 281, 3) := dk_U2 a_Mo_isCalm_37 (dko_180 _) rfl
theorem d_Mo_isCalm_40 : decode b_Mo_isCalm 40 = .ok (.iadd, 1) := dk_0 a_Mo_isCalm_40 (dko_96 _)
theorem d_Mo_isCalm_41 : decode b_Mo_isCalm 41 = .ok (.if_icmp .ge 97, 3) := dk_S2 a_Mo_isCalm_41 (dko_162 _) (by decide +kernel)
theorem d_Mo_isCalm_44 : decode b_Mo_isCalm 44 = .ok (.iconst 1, 1) := dk_0 a_Mo_isCalm_44 (dko_4 _)
theorem d_Mo_isCalm_45 : decode b_Mo_isCalm 45 = .ok (.istore_n 3, 1) := dk_0 a_Mo_isCalm_45 (dko_62 _)
theorem d_Mo_isCalm_46 : decode b_Mo_isCalm 46 = .ok (.iload_n 3, 1) := dk_0 a_Mo_isCalm_46 (dko_29 _)
theorem d_Mo_isCalm_47 : decode b_Mo_isCalm 47 = .ok (.bipush 16, 2) := dk_S1 a_Mo_isCalm_47 (dko_16 _) (by decide +kernel)
theorem d_Mo_isCalm_49 : decode b_Mo_isCalm 49 = .ok (.if_icmp .ge 83, 3) := dk_S2 a_Mo_isCalm_49 (dko_162 _) (by decide +kernel)
theorem d_Mo_isCalm_52 : decode b_Mo_isCalm 52 = .ok (.iload_n 3, 1) := dk_0 a_Mo_isCalm_52 (dko_29 _)
theorem d_Mo_isCalm_53 : decode b_Mo_isCalm 53 = .ok (.iconst 1, 1) := dk_0 a_Mo_isCalm_53 (dko_4 _)
theorem d_Mo_isCalm_54 : decode b_Mo_isCalm 54 = .ok (.iadd, 1) := dk_0 a_Mo_isCalm_54 (dko_96 _)
theorem d_Mo_isCalm_55 : decode b_Mo_isCalm 55 = .ok (.istore 4, 2) := dk_U1 a_Mo_isCalm_55 (dko_54 _) rfl
theorem d_Mo_isCalm_57 : decode b_Mo_isCalm 57 = .ok (.iload 4, 2) := dk_U1 a_Mo_isCalm_57 (dko_21 _) rfl
theorem d_Mo_isCalm_59 : decode b_Mo_isCalm 59 = .ok (.bipush 16, 2) := dk_S1 a_Mo_isCalm_59 (dko_16 _) (by decide +kernel)
theorem d_Mo_isCalm_61 : decode b_Mo_isCalm 61 = .ok (.if_icmp .ge 65, 3) := dk_S2 a_Mo_isCalm_61 (dko_162 _) (by decide +kernel)
theorem d_Mo_isCalm_64 : decode b_Mo_isCalm 64 = .ok (.aload_n 0, 1) := dk_0 a_Mo_isCalm_64 (dko_42 _)
theorem d_Mo_isCalm_65 : decode b_Mo_isCalm 65 = .ok (.getfield 129, 3) := dk_U2 a_Mo_isCalm_65 (dko_180 _) rfl
theorem d_Mo_isCalm_68 : decode b_Mo_isCalm 68 = .ok (.iload_n 3, 1) := dk_0 a_Mo_isCalm_68 (dko_29 _)
theorem d_Mo_isCalm_69 : decode b_Mo_isCalm 69 = .ok (.laload, 1) := dk_0 a_Mo_isCalm_69 (dko_47 _)
theorem d_Mo_isCalm_70 : decode b_Mo_isCalm 70 = .ok (.aload_n 0, 1) := dk_0 a_Mo_isCalm_70 (dko_42 _)
theorem d_Mo_isCalm_71 : decode b_Mo_isCalm 71 = .ok (.getfield 129, 3) := dk_U2 a_Mo_isCalm_71 (dko_180 _) rfl
theorem d_Mo_isCalm_74 : decode b_Mo_isCalm 74 = .ok (.iload 4, 2) := dk_U1 a_Mo_isCalm_74 (dko_21 _) rfl
theorem d_Mo_isCalm_76 : decode b_Mo_isCalm 76 = .ok (.laload, 1) := dk_0 a_Mo_isCalm_76 (dko_47 _)
theorem d_Mo_isCalm_77 : decode b_Mo_isCalm 77 = .ok (.land, 1) := dk_0 a_Mo_isCalm_77 (dko_127 _)
theorem d_Mo_isCalm_78 : decode b_Mo_isCalm 78 = .ok (.iload_n 2, 1) := dk_0 a_Mo_isCalm_78 (dko_28 _)
theorem d_Mo_isCalm_79 : decode b_Mo_isCalm 79 = .ok (.lshr, 1) := dk_0 a_Mo_isCalm_79 (dko_123 _)
theorem d_Mo_isCalm_80 : decode b_Mo_isCalm 80 = .ok (.lconst 1, 1) := dk_0 a_Mo_isCalm_80 (dko_10 _)
theorem d_Mo_isCalm_81 : decode b_Mo_isCalm 81 = .ok (.land, 1) := dk_0 a_Mo_isCalm_81 (dko_127 _)
theorem d_Mo_isCalm_82 : decode b_Mo_isCalm 82 = .ok (.lconst 0, 1) := dk_0 a_Mo_isCalm_82 (dko_9 _)
theorem d_Mo_isCalm_83 : decode b_Mo_isCalm 83 = .ok (.lcmp, 1) := dk_0 a_Mo_isCalm_83 (dko_148 _)
theorem d_Mo_isCalm_84 : decode b_Mo_isCalm 84 = .ok (.ifCond .eq 36, 3) := dk_S2 a_Mo_isCalm_84 (dko_153 _) (by decide +kernel)
theorem d_Mo_isCalm_87 : decode b_Mo_isCalm 87 = .ok (.aload_n 0, 1) := dk_0 a_Mo_isCalm_87 (dko_42 _)
theorem d_Mo_isCalm_88 : decode b_Mo_isCalm 88 = .ok (.iload_n 3, 1) := dk_0 a_Mo_isCalm_88 (dko_29 _)
theorem d_Mo_isCalm_89 : decode b_Mo_isCalm 89 = .ok (.iload 4, 2) := dk_U1 a_Mo_isCalm_89 (dko_21 _) rfl
theorem d_Mo_isCalm_91 : decode b_Mo_isCalm 91 = .ok (.invokevirtual 343, 3) := dk_U2 a_Mo_isCalm_91 (dko_182 _) rfl
theorem d_Mo_isCalm_94 : decode b_Mo_isCalm 94 = .ok (.ifCond .ne 26, 3) := dk_S2 a_Mo_isCalm_94 (dko_154 _) (by decide +kernel)
theorem d_Mo_isCalm_97 : decode b_Mo_isCalm 97 = .ok (.aload_n 0, 1) := dk_0 a_Mo_isCalm_97 (dko_42 _)
theorem d_Mo_isCalm_98 : decode b_Mo_isCalm 98 = .ok (.iload_n 1, 1) := dk_0 a_Mo_isCalm_98 (dko_27 _)
theorem d_Mo_isCalm_99 : decode b_Mo_isCalm 99 = .ok (.putfield 347, 3) := dk_U2 a_Mo_isCalm_99 (dko_181 _) rfl
theorem d_Mo_isCalm_102 : decode b_Mo_isCalm 102 = .ok (.aload_n 0, 1) := dk_0 a_Mo_isCalm_102 (dko_42 _)
theorem d_Mo_isCalm_103 : decode b_Mo_isCalm 103 = .ok (.iload_n 2, 1) := dk_0 a_Mo_isCalm_103 (dko_28 _)
theorem d_Mo_isCalm_104 : decode b_Mo_isCalm 104 = .ok (.putfield 350, 3) := dk_U2 a_Mo_isCalm_104 (dko_181 _) rfl
theorem d_Mo_isCalm_107 : decode b_Mo_isCalm 107 = .ok (.aload_n 0, 1) := dk_0 a_Mo_isCalm_107 (dko_42 _)
theorem d_Mo_isCalm_108 : decode b_Mo_isCalm 108 = .ok (.iload_n 3, 1) := dk_0 a_Mo_isCalm_108 (dko_29 _)
theorem d_Mo_isCalm_109 : decode b_Mo_isCalm 109 = .ok (.putfield 353, 3) := dk_U2 a_Mo_isCalm_109 (dko_181 _) rfl
theorem d_Mo_isCalm_112 : decode b_Mo_isCalm 112 = .ok (.aload_n 0, 1) := dk_0 a_Mo_isCalm_112 (dko_42 _)
theorem d_Mo_isCalm_113 : decode b_Mo_isCalm 113 = .ok (.iload 4, 2) := dk_U1 a_Mo_isCalm_113 (dko_21 _) rfl
theorem d_Mo_isCalm_115 : decode b_Mo_isCalm 115 = .ok (.putfield 356, 3) := dk_U2 a_Mo_isCalm_115 (dko_181 _) rfl
theorem d_Mo_isCalm_118 : decode b_Mo_isCalm 118 = .ok (.iconst 0, 1) := dk_0 a_Mo_isCalm_118 (dko_3 _)
theorem d_Mo_isCalm_119 : decode b_Mo_isCalm 119 = .ok (.ireturn, 1) := dk_0 a_Mo_isCalm_119 (dko_172 _)
theorem d_Mo_isCalm_120 : decode b_Mo_isCalm 120 = .ok (.iinc 4 1, 3) := dk_US a_Mo_isCalm_120 (dko_132 _) (by decide +kernel)
theorem d_Mo_isCalm_123 : decode b_Mo_isCalm 123 = .ok (.goto (-66), 3) := dk_S2 a_Mo_isCalm_123 (dko_167 _) (by decide +kernel)
theorem d_Mo_isCalm_126 : decode b_Mo_isCalm 126 = .ok (.iinc 3 1, 3) := dk_US a_Mo_isCalm_126 (dko_132 _) (by decide +kernel)
theorem d_Mo_isCalm_129 : decode b_Mo_isCalm 129 = .ok (.goto (-83), 3) := dk_S2 a_Mo_isCalm_129 (dko_167 _) (by decide +kernel)
theorem d_Mo_isCalm_132 : decode b_Mo_isCalm 132 = .ok (.iinc 2 1, 3) := dk_US a_Mo_isCalm_132 (dko_132 _) (by decide +kernel)
theorem d_Mo_isCalm_135 : decode b_Mo_isCalm 135 = .ok (.goto (-104), 3) := dk_S2 a_Mo_isCalm_135 (dko_167 _) (by decide +kernel)
theorem d_Mo_isCalm_138 : decode b_Mo_isCalm 138 = .ok (.iconst 1, 1) := dk_0 a_Mo_isCalm_138 (dko_4 _)
theorem d_Mo_isCalm_139 : decode b_Mo_isCalm 139 = .ok (.ireturn, 1) := dk_0 a_Mo_isCalm_139 (dko_172 _)
set_option maxHeartbeats 4000000 in
set_option maxRecDepth 100000 in
theorem ok_Mo_isCalm (pc : Nat) : OpS mt mi_Mo_isCalm pc (cs_Mo_isCalm pc) := (os_n (os_n (os_n (os_n (os_n (os_n (os_l (so_aload_n d_Mo_isCalm_0 rfl)) (os_l (so_callV (iv := mi_Mo_join) rfl rfl rfl mw_2389 mw_2391 sl_150 mw_18 mw_2392 ⟨by decide +kernel, by decide +kernel, by decide +kernel⟩ (by decide) d_Mo_isCalm_1))) (os_n (os_l (so_iconst d_Mo_isCalm_4 (by decide))) (os_n (os_l (so_istore_n d_Mo_isCalm_5 rfl (by decide))) (os_l (so_iload_n d_Mo_isCalm_6 rfl))))) (os_n (os_n (os_l (so_bipush d_Mo_isCalm_7 (by decide))) (os_l (so_icge d_Mo_isCalm_9 (by decide)))) (os_n (os_l (so_aload_n d_Mo_isCalm_12 rfl)) (os_n (os_l (so_get (C := R_Mo) (T := F_Mo) (N := 87) (j := 44) in_Mo rfl (by decide) mw_1838 d_Mo_isCalm_13)) (os_l (so_iload_n d_Mo_isCalm_16 rfl)))))) (os_n (os_n (os_n (os_l (so_aload_n d_Mo_isCalm_17 rfl)) (os_l (so_iload_n d_Mo_isCalm_18 rfl))) (os_n (os_l (so_callV (iv := mi_Mo_flood) rfl rfl rfl mw_2396 mw_2398 sl_151 mw_18 mw_2399 ⟨by decide +kernel, by decide +kernel, by decide +kernel⟩ (by decide) d_Mo_isCalm_19)) (os_n (os_l (so_lastore d_Mo_isCalm_22)) (os_l (so_iinc d_Mo_isCalm_23 (by decide) (by decide)))))) (os_n (os_n (os_l (so_goto d_Mo_isCalm_26 (by decide))) (os_l (so_iconst d_Mo_isCalm_29 (by decide)))) (os_n (os_l (so_istore_n d_Mo_isCalm_30 rfl (by decide))) (os_n (os_l (so_iload_n d_Mo_isCalm_31 rfl)) (os_l (so_aload_n d_Mo_isCalm_32 rfl))))))) (os_n (os_n (os_n (os_n (os_l (so_get (C := R_Mo) (T := F_Mo) (N := 87) (j := 4) in_Mo rfl (by decide) mw_1798 d_Mo_isCalm_33)) (os_l (so_aload_n d_Mo_isCalm_36 rfl))) (os_n (os_l (so_get (C := R_Mo) (T := F_Mo) (N := 87) (j := 11) in_Mo rfl (by decide) mw_1805 d_Mo_isCalm_37)) (os_n (os_l (so_iadd d_Mo_isCalm_40)) (os_l (so_icge d_Mo_isCalm_41 (by decide)))))) (os_n (os_n (os_l (so_iconst d_Mo_isCalm_44 (by decide))) (os_l (so_istore_n d_Mo_isCalm_45 rfl (by decide)))) (os_n (os_l (so_iload_n d_Mo_isCalm_46 rfl)) (os_n (os_l (so_bipush d_Mo_isCalm_47 (by decide))) (os_l (so_icge d_Mo_isCalm_49 (by decide))))))) (os_n (os_n (os_n (os_l (so_iload_n d_Mo_isCalm_52 rfl)) (os_l (so_iconst d_Mo_isCalm_53 (by decide)))) (os_n (os_l (so_iadd d_Mo_isCalm_54)) (os_n (os_l (so_istore d_Mo_isCalm_55 (by decide))) (os_l (so_iload d_Mo_isCalm_57))))) (os_n (os_n (os_l (so_bipush d_Mo_isCalm_59 (by decide))) (os_l (so_icge d_Mo_isCalm_61 (by decide)))) (os_n (os_l (so_aload_n d_Mo_isCalm_64 rfl)) (os_n (os_l (so_get (C := R_Mo) (T := F_Mo) (N := 87) (j := 44) in_Mo rfl (by decide) mw_1838 d_Mo_isCalm_65)) (os_l (so_iload_n d_Mo_isCalm_68 rfl)))))))) (os_n (os_n (os_n (os_n (os_n (os_l (so_laload d_Mo_isCalm_69)) (os_l (so_aload_n d_Mo_isCalm_70 rfl))) (os_n (os_l (so_get (C := R_Mo) (T := F_Mo) (N := 87) (j := 44) in_Mo rfl (by decide) mw_1838 d_Mo_isCalm_71)) (os_n (os_l (so_iload d_Mo_isCalm_74)) (os_l (so_laload d_Mo_isCalm_76))))) (os_n (os_n (os_l (so_land d_Mo_isCalm_77)) (os_l (so_iload_n d_Mo_isCalm_78 rfl))) (os_n (os_l (so_lshr d_Mo_isCalm_79)) (os_n (os_l (so_lconst d_Mo_isCalm_80 (by decide))) (os_l (so_land d_Mo_isCalm_81)))))) (os_n (os_n (os_n (os_l (so_lconst d_Mo_isCalm_82 (by decide))) (os_l (so_lcmp d_Mo_isCalm_83))) (os_n (os_l (so_ifeq d_Mo_isCalm_84 (by decide))) (os_n (os_l (so_aload_n d_Mo_isCalm_87 rfl)) (os_l (so_iload_n d_Mo_isCalm_88 rfl))))) (os_n (os_n (os_l (so_iload d_Mo_isCalm_89)) (os_l (so_callV (iv := mi_Mo_mayMeet) rfl rfl rfl mw_2400 mw_2402 sl_152 mw_18 mw_2403 ⟨by decide +kernel, by decide +kernel, by decide +kernel⟩ (by decide) d_Mo_isCalm_91))) (os_n (os_l (so_ifne d_Mo_isCalm_94 (by decide))) (os_n (os_l (so_aload_n d_Mo_isCalm_97 rfl)) (os_l (so_iload_n d_Mo_isCalm_98 rfl))))))) (os_n (os_n (os_n (os_n (os_l (so_putI (C := R_Mo) (T := F_Mo) (N := 87) (j := 45) in_Mo t_Mo_ok n_Mo rfl (by decide) mw_1839 rfl (by decide +kernel) d_Mo_isCalm_99)) (os_l (so_aload_n d_Mo_isCalm_102 rfl))) (os_n (os_l (so_iload_n d_Mo_isCalm_103 rfl)) (os_n (os_l (so_putI (C := R_Mo) (T := F_Mo) (N := 87) (j := 46) in_Mo t_Mo_ok n_Mo rfl (by decide) mw_1840 rfl (by decide +kernel) d_Mo_isCalm_104)) (os_l (so_aload_n d_Mo_isCalm_107 rfl))))) (os_n (os_n (os_l (so_iload_n d_Mo_isCalm_108 rfl)) (os_l (so_putI (C := R_Mo) (T := F_Mo) (N := 87) (j := 47) in_Mo t_Mo_ok n_Mo rfl (by decide) mw_1841 rfl (by decide +kernel) d_Mo_isCalm_109))) (os_n (os_l (so_aload_n d_Mo_isCalm_112 rfl)) (os_n (os_l (so_iload d_Mo_isCalm_113)) (os_l (so_putI (C := R_Mo) (T := F_Mo) (N := 87) (j := 48) in_Mo t_Mo_ok n_Mo rfl (by decide) mw_1842 rfl (by decide +kernel) d_Mo_isCalm_115)))))) (os_n (os_n (os_n (os_l (so_iconst d_Mo_isCalm_118 (by decide))) (os_l (so_zreturn rfl d_Mo_isCalm_119))) (os_n (os_l (so_iinc d_Mo_isCalm_120 (by decide) (by decide))) (os_n (os_l (so_goto d_Mo_isCalm_123 (by decide))) (os_l (so_iinc d_Mo_isCalm_126 (by decide) (by decide)))))) (os_n (os_n (os_l (so_goto d_Mo_isCalm_129 (by decide))) (os_l (so_iinc d_Mo_isCalm_132 (by decide) (by decide)))) (os_n (os_l (so_goto d_Mo_isCalm_135 (by decide))) (os_n (os_l (so_iconst d_Mo_isCalm_138 (by decide))) (os_l (so_zreturn rfl d_Mo_isCalm_139)))))))))
abbrev t_Mo_isSafe_115 : List UInt8 := 172 :: []
abbrev t_Mo_isSafe_114 : List UInt8 := 27 :: t_Mo_isSafe_115
abbrev t_Mo_isSafe_111 : List UInt8 := 167 :: 255 :: 153 :: t_Mo_isSafe_114
abbrev t_Mo_isSafe_108 : List UInt8 := 132 :: 2 :: 1 :: t_Mo_isSafe_111
abbrev t_Mo_isSafe_107 : List UInt8 := 79 :: t_Mo_isSafe_108
abbrev t_Mo_isSafe_106 : List UInt8 := 29 :: t_Mo_isSafe_107
abbrev t_Mo_isSafe_105 : List UInt8 := 28 :: t_Mo_isSafe_106
abbrev t_Mo_isSafe_102 : List UInt8 := 180 :: 0 :: 40 :: t_Mo_isSafe_105
abbrev t_Mo_isSafe_101 : List UInt8 := 42 :: t_Mo_isSafe_102
abbrev t_Mo_isSafe_98 : List UInt8 := 167 :: 255 :: 188 :: t_Mo_isSafe_101
abbrev t_Mo_isSafe_95 : List UInt8 := 132 :: 4 :: 1 :: t_Mo_isSafe_98
abbrev t_Mo_isSafe_94 : List UInt8 := 60 :: t_Mo_isSafe_95
abbrev t_Mo_isSafe_91 : List UInt8 := 182 :: 1 :: 103 :: t_Mo_isSafe_94
abbrev t_Mo_isSafe_90 : List UInt8 := 96 :: t_Mo_isSafe_91
abbrev t_Mo_isSafe_88 : List UInt8 := 21 :: 4 :: t_Mo_isSafe_90
abbrev t_Mo_isSafe_87 : List UInt8 := 96 :: t_Mo_isSafe_88
abbrev t_Mo_isSafe_86 : List UInt8 := 104 :: t_Mo_isSafe_87
abbrev t_Mo_isSafe_85 : List UInt8 := 28 :: t_Mo_isSafe_86
abbrev t_Mo_isSafe_83 : List UInt8 := 16 :: 10 :: t_Mo_isSafe_85
abbrev t_Mo_isSafe_82 : List UInt8 := 5 :: t_Mo_isSafe_83
abbrev t_Mo_isSafe_81 : List UInt8 := 42 :: t_Mo_isSafe_82
abbrev t_Mo_isSafe_80 : List UInt8 := 79 :: t_Mo_isSafe_81
abbrev t_Mo_isSafe_78 : List UInt8 := 21 :: 4 :: t_Mo_isSafe_80
abbrev t_Mo_isSafe_77 : List UInt8 := 28 :: t_Mo_isSafe_78
abbrev t_Mo_isSafe_74 : List UInt8 := 180 :: 0 :: 40 :: t_Mo_isSafe_77
abbrev t_Mo_isSafe_73 : List UInt8 := 42 :: t_Mo_isSafe_74
abbrev t_Mo_isSafe_70 : List UInt8 := 159 :: 0 :: 25 :: t_Mo_isSafe_73
abbrev t_Mo_isSafe_69 : List UInt8 := 4 :: t_Mo_isSafe_70
abbrev t_Mo_isSafe_67 : List UInt8 := 21 :: 4 :: t_Mo_isSafe_69
abbrev t_Mo_isSafe_64 : List UInt8 := 160 :: 0 :: 9 :: t_Mo_isSafe_67
abbrev t_Mo_isSafe_62 : List UInt8 := 16 :: 6 :: t_Mo_isSafe_64
abbrev t_Mo_isSafe_61 : List UInt8 := 46 :: t_Mo_isSafe_62
abbrev t_Mo_isSafe_60 : List UInt8 := 28 :: t_Mo_isSafe_61
abbrev t_Mo_isSafe_57 : List UInt8 := 180 :: 0 :: 27 :: t_Mo_isSafe_60
abbrev t_Mo_isSafe_56 : List UInt8 := 42 :: t_Mo_isSafe_57
abbrev t_Mo_isSafe_53 : List UInt8 := 159 :: 0 :: 42 :: t_Mo_isSafe_56
abbrev t_Mo_isSafe_52 : List UInt8 := 29 :: t_Mo_isSafe_53
abbrev t_Mo_isSafe_50 : List UInt8 := 21 :: 4 :: t_Mo_isSafe_52
abbrev t_Mo_isSafe_47 : List UInt8 := 153 :: 0 :: 54 :: t_Mo_isSafe_50
abbrev t_Mo_isSafe_46 : List UInt8 := 27 :: t_Mo_isSafe_47
abbrev t_Mo_isSafe_43 : List UInt8 := 161 :: 0 :: 58 :: t_Mo_isSafe_46
abbrev t_Mo_isSafe_42 : List UInt8 := 5 :: t_Mo_isSafe_43
abbrev t_Mo_isSafe_41 : List UInt8 := 46 :: t_Mo_isSafe_42
abbrev t_Mo_isSafe_40 : List UInt8 := 28 :: t_Mo_isSafe_41
abbrev t_Mo_isSafe_37 : List UInt8 := 180 :: 0 :: 27 :: t_Mo_isSafe_40
abbrev t_Mo_isSafe_36 : List UInt8 := 42 :: t_Mo_isSafe_37
abbrev t_Mo_isSafe_33 : List UInt8 := 162 :: 0 :: 68 :: t_Mo_isSafe_36
abbrev t_Mo_isSafe_32 : List UInt8 := 8 :: t_Mo_isSafe_33
abbrev t_Mo_isSafe_30 : List UInt8 := 21 :: 4 :: t_Mo_isSafe_32
abbrev t_Mo_isSafe_28 : List UInt8 := 54 :: 4 :: t_Mo_isSafe_30
abbrev t_Mo_isSafe_27 : List UInt8 := 3 :: t_Mo_isSafe_28
abbrev t_Mo_isSafe_26 : List UInt8 := 62 :: t_Mo_isSafe_27
abbrev t_Mo_isSafe_25 : List UInt8 := 46 :: t_Mo_isSafe_26
abbrev t_Mo_isSafe_24 : List UInt8 := 28 :: t_Mo_isSafe_25
abbrev t_Mo_isSafe_21 : List UInt8 := 180 :: 0 :: 40 :: t_Mo_isSafe_24
abbrev t_Mo_isSafe_20 : List UInt8 := 42 :: t_Mo_isSafe_21
abbrev t_Mo_isSafe_17 : List UInt8 := 153 :: 0 :: 97 :: t_Mo_isSafe_20
abbrev t_Mo_isSafe_16 : List UInt8 := 27 :: t_Mo_isSafe_17
abbrev t_Mo_isSafe_13 : List UInt8 := 162 :: 0 :: 101 :: t_Mo_isSafe_16
abbrev t_Mo_isSafe_10 : List UInt8 := 180 :: 1 :: 22 :: t_Mo_isSafe_13
abbrev t_Mo_isSafe_9 : List UInt8 := 42 :: t_Mo_isSafe_10
abbrev t_Mo_isSafe_8 : List UInt8 := 28 :: t_Mo_isSafe_9
abbrev t_Mo_isSafe_7 : List UInt8 := 61 :: t_Mo_isSafe_8
abbrev t_Mo_isSafe_6 : List UInt8 := 3 :: t_Mo_isSafe_7
abbrev t_Mo_isSafe_5 : List UInt8 := 60 :: t_Mo_isSafe_6
abbrev t_Mo_isSafe_2 : List UInt8 := 182 :: 1 :: 103 :: t_Mo_isSafe_5
abbrev t_Mo_isSafe_1 : List UInt8 := 4 :: t_Mo_isSafe_2
abbrev t_Mo_isSafe_0 : List UInt8 := 42 :: t_Mo_isSafe_1
theorem a_Mo_isSafe_0 : dk_at b_Mo_isSafe 0 t_Mo_isSafe_0 := dk_start (by decide +kernel)
theorem a_Mo_isSafe_1 : dk_at b_Mo_isSafe 1 t_Mo_isSafe_1 := dk_go 1 a_Mo_isSafe_0 rfl
theorem a_Mo_isSafe_2 : dk_at b_Mo_isSafe 2 t_Mo_isSafe_2 := dk_go 1 a_Mo_isSafe_1 rfl
theorem a_Mo_isSafe_5 : dk_at b_Mo_isSafe 5 t_Mo_isSafe_5 := dk_go 3 a_Mo_isSafe_2 rfl
theorem a_Mo_isSafe_6 : dk_at b_Mo_isSafe 6 t_Mo_isSafe_6 := dk_go 1 a_Mo_isSafe_5 rfl
theorem a_Mo_isSafe_7 : dk_at b_Mo_isSafe 7 t_Mo_isSafe_7 := dk_go 1 a_Mo_isSafe_6 rfl
theorem a_Mo_isSafe_8 : dk_at b_Mo_isSafe 8 t_Mo_isSafe_8 := dk_go 1 a_Mo_isSafe_7 rfl
theorem a_Mo_isSafe_9 : dk_at b_Mo_isSafe 9 t_Mo_isSafe_9 := dk_go 1 a_Mo_isSafe_8 rfl
theorem a_Mo_isSafe_10 : dk_at b_Mo_isSafe 10 t_Mo_isSafe_10 := dk_go 1 a_Mo_isSafe_9 rfl
theorem a_Mo_isSafe_13 : dk_at b_Mo_isSafe 13 t_Mo_isSafe_13 := dk_go 3 a_Mo_isSafe_10 rfl
theorem a_Mo_isSafe_16 : dk_at b_Mo_isSafe 16 t_Mo_isSafe_16 := dk_go 3 a_Mo_isSafe_13 rfl
theorem a_Mo_isSafe_17 : dk_at b_Mo_isSafe 17 t_Mo_isSafe_17 := dk_go 1 a_Mo_isSafe_16 rfl
theorem a_Mo_isSafe_20 : dk_at b_Mo_isSafe 20 t_Mo_isSafe_20 := dk_go 3 a_Mo_isSafe_17 rfl
theorem a_Mo_isSafe_21 : dk_at b_Mo_isSafe 21 t_Mo_isSafe_21 := dk_go 1 a_Mo_isSafe_20 rfl
theorem a_Mo_isSafe_24 : dk_at b_Mo_isSafe 24 t_Mo_isSafe_24 := dk_go 3 a_Mo_isSafe_21 rfl
theorem a_Mo_isSafe_25 : dk_at b_Mo_isSafe 25 t_Mo_isSafe_25 := dk_go 1 a_Mo_isSafe_24 rfl
theorem a_Mo_isSafe_26 : dk_at b_Mo_isSafe 26 t_Mo_isSafe_26 := dk_go 1 a_Mo_isSafe_25 rfl
theorem a_Mo_isSafe_27 : dk_at b_Mo_isSafe 27 t_Mo_isSafe_27 := dk_go 1 a_Mo_isSafe_26 rfl
theorem a_Mo_isSafe_28 : dk_at b_Mo_isSafe 28 t_Mo_isSafe_28 := dk_go 1 a_Mo_isSafe_27 rfl
theorem a_Mo_isSafe_30 : dk_at b_Mo_isSafe 30 t_Mo_isSafe_30 := dk_go 2 a_Mo_isSafe_28 rfl
theorem a_Mo_isSafe_32 : dk_at b_Mo_isSafe 32 t_Mo_isSafe_32 := dk_go 2 a_Mo_isSafe_30 rfl
theorem a_Mo_isSafe_33 : dk_at b_Mo_isSafe 33 t_Mo_isSafe_33 := dk_go 1 a_Mo_isSafe_32 rfl
theorem a_Mo_isSafe_36 : dk_at b_Mo_isSafe 36 t_Mo_isSafe_36 := dk_go 3 a_Mo_isSafe_33 rfl
theorem a_Mo_isSafe_37 : dk_at b_Mo_isSafe 37 t_Mo_isSafe_37 := dk_go 1 a_Mo_isSafe_36 rfl
theorem a_Mo_isSafe_40 : dk_at b_Mo_isSafe 40 t_Mo_isSafe_40 := dk_go 3 a_Mo_isSafe_37 rfl
theorem a_Mo_isSafe_41 : dk_at b_Mo_isSafe 41 t_Mo_isSafe_41 := dk_go 1 a_Mo_isSafe_40 rfl
theorem a_Mo_isSafe_42 : dk_at b_Mo_isSafe 42 t_Mo_isSafe_42 := dk_go 1 a_Mo_isSafe_41 rfl
theorem a_Mo_isSafe_43 : dk_at b_Mo_isSafe 43 t_Mo_isSafe_43 := dk_go 1 a_Mo_isSafe_42 rfl
theorem a_Mo_isSafe_46 : dk_at b_Mo_isSafe 46 t_Mo_isSafe_46 := dk_go 3 a_Mo_isSafe_43 rfl
theorem a_Mo_isSafe_47 : dk_at b_Mo_isSafe 47 t_Mo_isSafe_47 := dk_go 1 a_Mo_isSafe_46 rfl
theorem a_Mo_isSafe_50 : dk_at b_Mo_isSafe 50 t_Mo_isSafe_50 := dk_go 3 a_Mo_isSafe_47 rfl
theorem a_Mo_isSafe_52 : dk_at b_Mo_isSafe 52 t_Mo_isSafe_52 := dk_go 2 a_Mo_isSafe_50 rfl
theorem a_Mo_isSafe_53 : dk_at b_Mo_isSafe 53 t_Mo_isSafe_53 := dk_go 1 a_Mo_isSafe_52 rfl
theorem a_Mo_isSafe_56 : dk_at b_Mo_isSafe 56 t_Mo_isSafe_56 := dk_go 3 a_Mo_isSafe_53 rfl
theorem a_Mo_isSafe_57 : dk_at b_Mo_isSafe 57 t_Mo_isSafe_57 := dk_go 1 a_Mo_isSafe_56 rfl
theorem a_Mo_isSafe_60 : dk_at b_Mo_isSafe 60 t_Mo_isSafe_60 := dk_go 3 a_Mo_isSafe_57 rfl
theorem a_Mo_isSafe_61 : dk_at b_Mo_isSafe 61 t_Mo_isSafe_61 := dk_go 1 a_Mo_isSafe_60 rfl
theorem a_Mo_isSafe_62 : dk_at b_Mo_isSafe 62 t_Mo_isSafe_62 := dk_go 1 a_Mo_isSafe_61 rfl
theorem a_Mo_isSafe_64 : dk_at b_Mo_isSafe 64 t_Mo_isSafe_64 := dk_go 2 a_Mo_isSafe_62 rfl
theorem a_Mo_isSafe_67 : dk_at b_Mo_isSafe 67 t_Mo_isSafe_67 := dk_go 3 a_Mo_isSafe_64 rfl
theorem a_Mo_isSafe_69 : dk_at b_Mo_isSafe 69 t_Mo_isSafe_69 := dk_go 2 a_Mo_isSafe_67 rfl
theorem a_Mo_isSafe_70 : dk_at b_Mo_isSafe 70 t_Mo_isSafe_70 := dk_go 1 a_Mo_isSafe_69 rfl
theorem a_Mo_isSafe_73 : dk_at b_Mo_isSafe 73 t_Mo_isSafe_73 := dk_go 3 a_Mo_isSafe_70 rfl
theorem a_Mo_isSafe_74 : dk_at b_Mo_isSafe 74 t_Mo_isSafe_74 := dk_go 1 a_Mo_isSafe_73 rfl
theorem a_Mo_isSafe_77 : dk_at b_Mo_isSafe 77 t_Mo_isSafe_77 := dk_go 3 a_Mo_isSafe_74 rfl
theorem a_Mo_isSafe_78 : dk_at b_Mo_isSafe 78 t_Mo_isSafe_78 := dk_go 1 a_Mo_isSafe_77 rfl
theorem a_Mo_isSafe_80 : dk_at b_Mo_isSafe 80 t_Mo_isSafe_80 := dk_go 2 a_Mo_isSafe_78 rfl
theorem a_Mo_isSafe_81 : dk_at b_Mo_isSafe 81 t_Mo_isSafe_81 := dk_go 1 a_Mo_isSafe_80 rfl
theorem a_Mo_isSafe_82 : dk_at b_Mo_isSafe 82 t_Mo_isSafe_82 := dk_go 1 a_Mo_isSafe_81 rfl
theorem a_Mo_isSafe_83 : dk_at b_Mo_isSafe 83 t_Mo_isSafe_83 := dk_go 1 a_Mo_isSafe_82 rfl
theorem a_Mo_isSafe_85 : dk_at b_Mo_isSafe 85 t_Mo_isSafe_85 := dk_go 2 a_Mo_isSafe_83 rfl
theorem a_Mo_isSafe_86 : dk_at b_Mo_isSafe 86 t_Mo_isSafe_86 := dk_go 1 a_Mo_isSafe_85 rfl
theorem a_Mo_isSafe_87 : dk_at b_Mo_isSafe 87 t_Mo_isSafe_87 := dk_go 1 a_Mo_isSafe_86 rfl
theorem a_Mo_isSafe_88 : dk_at b_Mo_isSafe 88 t_Mo_isSafe_88 := dk_go 1 a_Mo_isSafe_87 rfl
theorem a_Mo_isSafe_90 : dk_at b_Mo_isSafe 90 t_Mo_isSafe_90 := dk_go 2 a_Mo_isSafe_88 rfl
theorem a_Mo_isSafe_91 : dk_at b_Mo_isSafe 91 t_Mo_isSafe_91 := dk_go 1 a_Mo_isSafe_90 rfl
theorem a_Mo_isSafe_94 : dk_at b_Mo_isSafe 94 t_Mo_isSafe_94 := dk_go 3 a_Mo_isSafe_91 rfl
theorem a_Mo_isSafe_95 : dk_at b_Mo_isSafe 95 t_Mo_isSafe_95 := dk_go 1 a_Mo_isSafe_94 rfl
theorem a_Mo_isSafe_98 : dk_at b_Mo_isSafe 98 t_Mo_isSafe_98 := dk_go 3 a_Mo_isSafe_95 rfl
theorem a_Mo_isSafe_101 : dk_at b_Mo_isSafe 101 t_Mo_isSafe_101 := dk_go 3 a_Mo_isSafe_98 rfl
theorem a_Mo_isSafe_102 : dk_at b_Mo_isSafe 102 t_Mo_isSafe_102 := dk_go 1 a_Mo_isSafe_101 rfl
theorem a_Mo_isSafe_105 : dk_at b_Mo_isSafe 105 t_Mo_isSafe_105 := dk_go 3 a_Mo_isSafe_102 rfl
theorem a_Mo_isSafe_106 : dk_at b_Mo_isSafe 106 t_Mo_isSafe_106 := dk_go 1 a_Mo_isSafe_105 rfl
theorem a_Mo_isSafe_107 : dk_at b_Mo_isSafe 107 t_Mo_isSafe_107 := dk_go 1 a_Mo_isSafe_106 rfl
theorem a_Mo_isSafe_108 : dk_at b_Mo_isSafe 108 t_Mo_isSafe_108 := dk_go 1 a_Mo_isSafe_107 rfl
theorem a_Mo_isSafe_111 : dk_at b_Mo_isSafe 111 t_Mo_isSafe_111 := dk_go 3 a_Mo_isSafe_108 rfl
theorem a_Mo_isSafe_114 : dk_at b_Mo_isSafe 114 t_Mo_isSafe_114 := dk_go 3 a_Mo_isSafe_111 rfl
theorem a_Mo_isSafe_115 : dk_at b_Mo_isSafe 115 t_Mo_isSafe_115 := dk_go 1 a_Mo_isSafe_114 rfl
theorem d_Mo_isSafe_0 : decode b_Mo_isSafe 0 = .ok (.aload_n 0, 1) := dk_0 a_Mo_isSafe_0 (dko_42 _)
theorem d_Mo_isSafe_1 : decode b_Mo_isSafe 1 = .ok (.iconst 1, 1) := dk_0 a_Mo_isSafe_1 (dko_4 _)
theorem d_Mo_isSafe_2 : decode b_Mo_isSafe 2 = .ok (.invokevirtual 359, 3) := dk_U2 a_Mo_isSafe_2 (dko_182 _) rfl
theorem d_Mo_isSafe_5 : decode b_Mo_isSafe 5 = .ok (.istore_n 1, 1) := dk_0 a_Mo_isSafe_5 (dko_60 _)
theorem d_Mo_isSafe_6 : decode b_Mo_isSafe 6 = .ok (.iconst 0, 1) := dk_0 a_Mo_isSafe_6 (dko_3 _)
theorem d_Mo_isSafe_7 : decode b_Mo_isSafe 7 = .ok (.istore_n 2, 1) := dk_0 a_Mo_isSafe_7 (dko_61 _)
theorem d_Mo_isSafe_8 : decode b_Mo_isSafe 8 = .ok (.iload_n 2, 1) := dk_0 a_Mo_isSafe_8 (dko_28 _)
theorem d_Mo_isSafe_9 : decode b_Mo_isSafe 9 = .ok (.aload_n 0, 1) := dk_0 a_Mo_isSafe_9 (dko_42 _)
theorem d_Mo_isSafe_10 : decode b_Mo_isSafe 10 = .ok (.getfield 278, 3) := dk_U2 a_Mo_isSafe_10 (dko_180 _) rfl
theorem d_Mo_isSafe_13 : decode b_Mo_isSafe 13 = .ok (.if_icmp .ge 101, 3) := dk_S2 a_Mo_isSafe_13 (dko_162 _) (by decide +kernel)
theorem d_Mo_isSafe_16 : decode b_Mo_isSafe 16 = .ok (.iload_n 1, 1) := dk_0 a_Mo_isSafe_16 (dko_27 _)
theorem d_Mo_isSafe_17 : decode b_Mo_isSafe 17 = .ok (.ifCond .eq 97, 3) := dk_S2 a_Mo_isSafe_17 (dko_153 _) (by decide +kernel)
theorem d_Mo_isSafe_20 : decode b_Mo_isSafe 20 = .ok (.aload_n 0, 1) := dk_0 a_Mo_isSafe_20 (dko_42 _)
theorem d_Mo_isSafe_21 : decode b_Mo_isSafe 21 = .ok (.getfield 40, 3) := dk_U2 a_Mo_isSafe_21 (dko_180 _) rfl
theorem d_Mo_isSafe_24 : decode b_Mo_isSafe 24 = .ok (.iload_n 2, 1) := dk_0 a_Mo_isSafe_24 (dko_28 _)
theorem d_Mo_isSafe_25 : decode b_Mo_isSafe 25 = .ok (.iaload, 1) := dk_0 a_Mo_isSafe_25 (dko_46 _)
theorem d_Mo_isSafe_26 : decode b_Mo_isSafe 26 = .ok (.istore_n 3, 1) := dk_0 a_Mo_isSafe_26 (dko_62 _)
theorem d_Mo_isSafe_27 : decode b_Mo_isSafe 27 = .ok (.iconst 0, 1) := dk_0 a_Mo_isSafe_27 (dko_3 _)
theorem d_Mo_isSafe_28 : decode b_Mo_isSafe 28 = .ok (.istore 4, 2) := dk_U1 a_Mo_isSafe_28 (dko_54 _) rfl
theorem d_Mo_isSafe_30 : decode b_Mo_isSafe 30 = .ok (.iload 4, 2) := dk_U1 a_Mo_isSafe_30 (dko_21 _) rfl
theorem d_Mo_isSafe_32 : decode b_Mo_isSafe 32 = .ok (.iconst 5, 1) := dk_0 a_Mo_isSafe_32 (dko_8 _)
theorem d_Mo_isSafe_33 : decode b_Mo_isSafe 33 = .ok (.if_icmp .ge 68, 3) := dk_S2 a_Mo_isSafe_33 (dko_162 _) (by decide +kernel)
theorem d_Mo_isSafe_36 : decode b_Mo_isSafe 36 = .ok (.aload_n 0, 1) := dk_0 a_Mo_isSafe_36 (dko_42 _)
theorem d_Mo_isSafe_37 : decode b_Mo_isSafe 37 = .ok (.getfield 27, 3) := dk_U2 a_Mo_isSafe_37 (dko_180 _) rfl
theorem d_Mo_isSafe_40 : decode b_Mo_isSafe 40 = .ok (.iload_n 2, 1) := dk_0 a_Mo_isSafe_40 (dko_28 _)
theorem d_Mo_isSafe_41 : decode b_Mo_isSafe 41 = .ok (.iaload, 1) := dk_0 a_Mo_isSafe_41 (dko_46 _)
theorem d_Mo_isSafe_42 : decode b_Mo_isSafe 42 = .ok (.iconst 2, 1) := dk_0 a_Mo_isSafe_42 (dko_5 _)
theorem d_Mo_isSafe_43 : decode b_Mo_isSafe 43 = .ok (.if_icmp .lt 58, 3) := dk_S2 a_Mo_isSafe_43 (dko_161 _) (by decide +kernel)
theorem d_Mo_isSafe_46 : decode b_Mo_isSafe 46 = .ok (.iload_n 1, 1) := dk_0 a_Mo_isSafe_46 (dko_27 _)
theorem d_Mo_isSafe_47 : decode b_Mo_isSafe 47 = .ok (.ifCond .eq 54, 3) := dk_S2 a_Mo_isSafe_47 (dko_153 _) (by decide +kernel)
theorem d_Mo_isSafe_50 : decode b_Mo_isSafe 50 = .ok (.iload 4, 2) := dk_U1 a_Mo_isSafe_50 (dko_21 _) rfl
theorem d_Mo_isSafe_52 : decode b_Mo_isSafe 52 = .ok (.iload_n 3, 1) := dk_0 a_Mo_isSafe_52 (dko_29 _)
theorem d_Mo_isSafe_53 : decode b_Mo_isSafe 53 = .ok (.if_icmp .eq 42, 3) := dk_S2 a_Mo_isSafe_53 (dko_159 _) (by decide +kernel)
theorem d_Mo_isSafe_56 : decode b_Mo_isSafe 56 = .ok (.aload_n 0, 1) := dk_0 a_Mo_isSafe_56 (dko_42 _)
theorem d_Mo_isSafe_57 : decode b_Mo_isSafe 57 = .ok (.getfield 27, 3) := dk_U2 a_Mo_isSafe_57 (dko_180 _) rfl
theorem d_Mo_isSafe_60 : decode b_Mo_isSafe 60 = .ok (.iload_n 2, 1) := dk_0 a_Mo_isSafe_60 (dko_28 _)
theorem d_Mo_isSafe_61 : decode b_Mo_isSafe 61 = .ok (.iaload, 1) := dk_0 a_Mo_isSafe_61 (dko_46 _)
theorem d_Mo_isSafe_62 : decode b_Mo_isSafe 62 = .ok (.bipush 6, 2) := dk_S1 a_Mo_isSafe_62 (dko_16 _) (by decide +kernel)
theorem d_Mo_isSafe_64 : decode b_Mo_isSafe 64 = .ok (.if_icmp .ne 9, 3) := dk_S2 a_Mo_isSafe_64 (dko_160 _) (by decide +kernel)
theorem d_Mo_isSafe_67 : decode b_Mo_isSafe 67 = .ok (.iload 4, 2) := dk_U1 a_Mo_isSafe_67 (dko_21 _) rfl
theorem d_Mo_isSafe_69 : decode b_Mo_isSafe 69 = .ok (.iconst 1, 1) := dk_0 a_Mo_isSafe_69 (dko_4 _)
theorem d_Mo_isSafe_70 : decode b_Mo_isSafe 70 = .ok (.if_icmp .eq 25, 3) := dk_S2 a_Mo_isSafe_70 (dko_159 _) (by decide +kernel)
theorem d_Mo_isSafe_73 : decode b_Mo_isSafe 73 = .ok (.aload_n 0, 1) := dk_0 a_Mo_isSafe_73 (dko_42 _)
theorem d_Mo_isSafe_74 : decode b_Mo_isSafe 74 = .ok (.getfield 40, 3) := dk_U2 a_Mo_isSafe_74 (dko_180 _) rfl
theorem d_Mo_isSafe_77 : decode b_Mo_isSafe 77 = .ok (.iload_n 2, 1) := dk_0 a_Mo_isSafe_77 (dko_28 _)
theorem d_Mo_isSafe_78 : decode b_Mo_isSafe 78 = .ok (.iload 4, 2) := dk_U1 a_Mo_isSafe_78 (dko_21 _) rfl
theorem d_Mo_isSafe_80 : decode b_Mo_isSafe 80 = .ok (.iastore, 1) := dk_0 a_Mo_isSafe_80 (dko_79 _)
theorem d_Mo_isSafe_81 : decode b_Mo_isSafe 81 = .ok (.aload_n 0, 1) := dk_0 a_Mo_isSafe_81 (dko_42 _)
theorem d_Mo_isSafe_82 : decode b_Mo_isSafe 82 = .ok (.iconst 2, 1) := dk_0 a_Mo_isSafe_82 (dko_5 _)
theorem d_Mo_isSafe_83 : decode b_Mo_isSafe 83 = .ok (.bipush 10, 2) := dk_S1 a_Mo_isSafe_83 (dko_16 _) (by decide +kernel)
theorem d_Mo_isSafe_85 : decode b_Mo_isSafe 85 = .ok (.iload_n 2, 1) := dk_0 a_Mo_isSafe_85 (dko_28 _)
theorem d_Mo_isSafe_86 : decode b_Mo_isSafe 86 = .ok (.imul, 1) := dk_0 a_Mo_isSafe_86 (dko_104 _)
theorem d_Mo_isSafe_87 : decode b_Mo_isSafe 87 = .ok (.iadd, 1) := dk_0 a_Mo_isSafe_87 (dko_96 _)
theorem d_Mo_isSafe_88 : decode b_Mo_isSafe 88 = .ok (.iload 4, 2) := dk_U1 a_Mo_isSafe_88 (dko_21 _) rfl
theorem d_Mo_isSafe_90 : decode b_Mo_isSafe 90 = .ok (.iadd, 1) := dk_0 a_Mo_isSafe_90 (dko_96 _)
theorem d_Mo_isSafe_91 : decode b_Mo_isSafe 91 = .ok (.invokevirtual 359, 3) := dk_U2 a_Mo_isSafe_91 (dko_182 _) rfl
theorem d_Mo_isSafe_94 : decode b_Mo_isSafe 94 = .ok (.istore_n 1, 1) := dk_0 a_Mo_isSafe_94 (dko_60 _)
theorem d_Mo_isSafe_95 : decode b_Mo_isSafe 95 = .ok (.iinc 4 1, 3) := dk_US a_Mo_isSafe_95 (dko_132 _) (by decide +kernel)
theorem d_Mo_isSafe_98 : decode b_Mo_isSafe 98 = .ok (.goto (-68), 3) := dk_S2 a_Mo_isSafe_98 (dko_167 _) (by decide +kernel)
theorem d_Mo_isSafe_101 : decode b_Mo_isSafe 101 = .ok (.aload_n 0, 1) := dk_0 a_Mo_isSafe_101 (dko_42 _)
theorem d_Mo_isSafe_102 : decode b_Mo_isSafe 102 = .ok (.getfield 40, 3) := dk_U2 a_Mo_isSafe_102 (dko_180 _) rfl
theorem d_Mo_isSafe_105 : decode b_Mo_isSafe 105 = .ok (.iload_n 2, 1) := dk_0 a_Mo_isSafe_105 (dko_28 _)
theorem d_Mo_isSafe_106 : decode b_Mo_isSafe 106 = .ok (.iload_n 3, 1) := dk_0 a_Mo_isSafe_106 (dko_29 _)
theorem d_Mo_isSafe_107 : decode b_Mo_isSafe 107 = .ok (.iastore, 1) := dk_0 a_Mo_isSafe_107 (dko_79 _)
theorem d_Mo_isSafe_108 : decode b_Mo_isSafe 108 = .ok (.iinc 2 1, 3) := dk_US a_Mo_isSafe_108 (dko_132 _) (by decide +kernel)
theorem d_Mo_isSafe_111 : decode b_Mo_isSafe 111 = .ok (.goto (-103), 3) := dk_S2 a_Mo_isSafe_111 (dko_167 _) (by decide +kernel)
theorem d_Mo_isSafe_114 : decode b_Mo_isSafe 114 = .ok (.iload_n 1, 1) := dk_0 a_Mo_isSafe_114 (dko_27 _)
theorem d_Mo_isSafe_115 : decode b_Mo_isSafe 115 = .ok (.ireturn, 1) := dk_0 a_Mo_isSafe_115 (dko_172 _)
set_option maxHeartbeats 4000000 in
set_option maxRecDepth 100000 in
theorem ok_Mo_isSafe (pc : Nat) : OpS mt mi_Mo_isSafe pc (cs_Mo_isSafe pc) := (os_n (os_n (os_n (os_n (os_n (os_n (os_l (so_aload_n d_Mo_isSafe_0 rfl)) (os_l (so_iconst d_Mo_isSafe_1 (by decide)))) (os_n (os_l (so_callV (iv := mi_Mo_isCalm) rfl rfl rfl mw_2385 mw_2387 sl_149 mw_18 mw_2388 ⟨by decide +kernel, by decide +kernel, by decide +kernel⟩ (by decide) d_Mo_isSafe_2)) (os_l (so_istore_n d_Mo_isSafe_5 rfl (by decide))))) (os_n (os_n (os_l (so_iconst d_Mo_isSafe_6 (by decide))) (os_l (so_istore_n d_Mo_isSafe_7 rfl (by decide)))) (os_n (os_l (so_iload_n d_Mo_isSafe_8 rfl)) (os_l (so_aload_n d_Mo_isSafe_9 rfl))))) (os_n (os_n (os_n (os_l (so_get (C := R_Mo) (T := F_Mo) (N := 87) (j := 4) in_Mo rfl (by decide) mw_1798 d_Mo_isSafe_10)) (os_l (so_icge d_Mo_isSafe_13 (by decide)))) (os_n (os_l (so_iload_n d_Mo_isSafe_16 rfl)) (os_l (so_ifeq d_Mo_isSafe_17 (by decide))))) (os_n (os_n (os_l (so_aload_n d_Mo_isSafe_20 rfl)) (os_l (so_get (C := R_Mo) (T := F_Mo) (N := 87) (j := 9) in_Mo rfl (by decide) mw_1803 d_Mo_isSafe_21))) (os_n (os_l (so_iload_n d_Mo_isSafe_24 rfl)) (os_n (os_l (so_iaload d_Mo_isSafe_25)) (os_l (so_istore_n d_Mo_isSafe_26 rfl (by decide)))))))) (os_n (os_n (os_n (os_n (os_l (so_iconst d_Mo_isSafe_27 (by decide))) (os_l (so_istore d_Mo_isSafe_28 (by decide)))) (os_n (os_l (so_iload d_Mo_isSafe_30)) (os_l (so_iconst d_Mo_isSafe_32 (by decide))))) (os_n (os_n (os_l (so_icge d_Mo_isSafe_33 (by decide))) (os_l (so_aload_n d_Mo_isSafe_36 rfl))) (os_n (os_l (so_get (C := R_Mo) (T := F_Mo) (N := 87) (j := 5) in_Mo rfl (by decide) mw_1799 d_Mo_isSafe_37)) (os_l (so_iload_n d_Mo_isSafe_40 rfl))))) (os_n (os_n (os_n (os_l (so_iaload d_Mo_isSafe_41)) (os_l (so_iconst d_Mo_isSafe_42 (by decide)))) (os_n (os_l (so_iclt d_Mo_isSafe_43 (by decide))) (os_l (so_iload_n d_Mo_isSafe_46 rfl)))) (os_n (os_n (os_l (so_ifeq d_Mo_isSafe_47 (by decide))) (os_l (so_iload d_Mo_isSafe_50))) (os_n (os_l (so_iload_n d_Mo_isSafe_52 rfl)) (os_n (os_l (so_iceq d_Mo_isSafe_53 (by decide))) (os_l (so_aload_n d_Mo_isSafe_56 rfl)))))))) (os_n (os_n (os_n (os_n (os_n (os_l (so_get (C := R_Mo) (T := F_Mo) (N := 87) (j := 5) in_Mo rfl (by decide) mw_1799 d_Mo_isSafe_57)) (os_l (so_iload_n d_Mo_isSafe_60 rfl))) (os_n (os_l (so_iaload d_Mo_isSafe_61)) (os_l (so_bipush d_Mo_isSafe_62 (by decide))))) (os_n (os_n (os_l (so_icne d_Mo_isSafe_64 (by decide))) (os_l (so_iload d_Mo_isSafe_67))) (os_n (os_l (so_iconst d_Mo_isSafe_69 (by decide))) (os_l (so_iceq d_Mo_isSafe_70 (by decide)))))) (os_n (os_n (os_n (os_l (so_aload_n d_Mo_isSafe_73 rfl)) (os_l (so_get (C := R_Mo) (T := F_Mo) (N := 87) (j := 9) in_Mo rfl (by decide) mw_1803 d_Mo_isSafe_74))) (os_n (os_l (so_iload_n d_Mo_isSafe_77 rfl)) (os_l (so_iload d_Mo_isSafe_78)))) (os_n (os_n (os_l (so_iastore d_Mo_isSafe_80)) (os_l (so_aload_n d_Mo_isSafe_81 rfl))) (os_n (os_l (so_iconst d_Mo_isSafe_82 (by decide))) (os_n (os_l (so_bipush d_Mo_isSafe_83 (by decide))) (os_l (so_iload_n d_Mo_isSafe_85 rfl))))))) (os_n (os_n (os_n (os_n (os_l (so_imul d_Mo_isSafe_86)) (os_l (so_iadd d_Mo_isSafe_87))) (os_n (os_l (so_iload d_Mo_isSafe_88)) (os_l (so_iadd d_Mo_isSafe_90)))) (os_n (os_n (os_l (so_callV (iv := mi_Mo_isCalm) rfl rfl rfl mw_2385 mw_2387 sl_149 mw_18 mw_2388 ⟨by decide +kernel, by decide +kernel, by decide +kernel⟩ (by decide) d_Mo_isSafe_91)) (os_l (so_istore_n d_Mo_isSafe_94 rfl (by decide)))) (os_n (os_l (so_iinc d_Mo_isSafe_95 (by decide) (by decide))) (os_l (so_goto d_Mo_isSafe_98 (by decide)))))) (os_n (os_n (os_n (os_l (so_aload_n d_Mo_isSafe_101 rfl)) (os_l (so_get (C := R_Mo) (T := F_Mo) (N := 87) (j := 9) in_Mo rfl (by decide) mw_1803 d_Mo_isSafe_102))) (os_n (os_l (so_iload_n d_Mo_isSafe_105 rfl)) (os_l (so_iload_n d_Mo_isSafe_106 rfl)))) (os_n (os_n (os_l (so_iastore d_Mo_isSafe_107)) (os_l (so_iinc d_Mo_isSafe_108 (by decide) (by decide)))) (os_n (os_l (so_goto d_Mo_isSafe_111 (by decide))) (os_n (os_l (so_iload_n d_Mo_isSafe_114 rfl)) (os_l (so_zreturn rfl d_Mo_isSafe_115)))))))))
abbrev t_Mo_look_110 : List UInt8 := 177 :: []
abbrev t_Mo_look_107 : List UInt8 := 167 :: 255 :: 183 :: t_Mo_look_110
abbrev t_Mo_look_104 : List UInt8 := 132 :: 1 :: 1 :: t_Mo_look_107
abbrev t_Mo_look_101 : List UInt8 := 167 :: 255 :: 215 :: t_Mo_look_104
abbrev t_Mo_look_98 : List UInt8 := 132 :: 2 :: 1 :: t_Mo_look_101
abbrev t_Mo_look_95 : List UInt8 := 182 :: 1 :: 106 :: t_Mo_look_98
abbrev t_Mo_look_94 : List UInt8 := 46 :: t_Mo_look_95
abbrev t_Mo_look_93 : List UInt8 := 27 :: t_Mo_look_94
abbrev t_Mo_look_90 : List UInt8 := 180 :: 0 :: 89 :: t_Mo_look_93
abbrev t_Mo_look_89 : List UInt8 := 42 :: t_Mo_look_90
abbrev t_Mo_look_88 : List UInt8 := 96 :: t_Mo_look_89
abbrev t_Mo_look_87 : List UInt8 := 108 :: t_Mo_look_88
abbrev t_Mo_look_86 : List UInt8 := 5 :: t_Mo_look_87
abbrev t_Mo_look_85 : List UInt8 := 46 :: t_Mo_look_86
abbrev t_Mo_look_84 : List UInt8 := 96 :: t_Mo_look_85
abbrev t_Mo_look_83 : List UInt8 := 28 :: t_Mo_look_84
abbrev t_Mo_look_82 : List UInt8 := 104 :: t_Mo_look_83
abbrev t_Mo_look_81 : List UInt8 := 27 :: t_Mo_look_82
abbrev t_Mo_look_79 : List UInt8 := 16 :: 24 :: t_Mo_look_81
abbrev t_Mo_look_76 : List UInt8 := 180 :: 0 :: 98 :: t_Mo_look_79
abbrev t_Mo_look_75 : List UInt8 := 42 :: t_Mo_look_76
abbrev t_Mo_look_72 : List UInt8 := 180 :: 1 :: 22 :: t_Mo_look_75
abbrev t_Mo_look_71 : List UInt8 := 42 :: t_Mo_look_72
abbrev t_Mo_look_70 : List UInt8 := 42 :: t_Mo_look_71
abbrev t_Mo_look_67 : List UInt8 := 162 :: 0 :: 37 :: t_Mo_look_70
abbrev t_Mo_look_66 : List UInt8 := 46 :: t_Mo_look_67
abbrev t_Mo_look_65 : List UInt8 := 27 :: t_Mo_look_66
abbrev t_Mo_look_62 : List UInt8 := 180 :: 0 :: 95 :: t_Mo_look_65
abbrev t_Mo_look_61 : List UInt8 := 42 :: t_Mo_look_62
abbrev t_Mo_look_60 : List UInt8 := 28 :: t_Mo_look_61
abbrev t_Mo_look_59 : List UInt8 := 61 :: t_Mo_look_60
abbrev t_Mo_look_58 : List UInt8 := 3 :: t_Mo_look_59
abbrev t_Mo_look_55 : List UInt8 := 182 :: 1 :: 106 :: t_Mo_look_58
abbrev t_Mo_look_54 : List UInt8 := 46 :: t_Mo_look_55
abbrev t_Mo_look_53 : List UInt8 := 27 :: t_Mo_look_54
abbrev t_Mo_look_50 : List UInt8 := 180 :: 0 :: 89 :: t_Mo_look_53
abbrev t_Mo_look_49 : List UInt8 := 42 :: t_Mo_look_50
abbrev t_Mo_look_48 : List UInt8 := 46 :: t_Mo_look_49
abbrev t_Mo_look_47 : List UInt8 := 27 :: t_Mo_look_48
abbrev t_Mo_look_44 : List UInt8 := 180 :: 0 :: 86 :: t_Mo_look_47
abbrev t_Mo_look_43 : List UInt8 := 42 :: t_Mo_look_44
abbrev t_Mo_look_42 : List UInt8 := 42 :: t_Mo_look_43
abbrev t_Mo_look_39 : List UInt8 := 162 :: 0 :: 71 :: t_Mo_look_42
abbrev t_Mo_look_36 : List UInt8 := 180 :: 1 :: 28 :: t_Mo_look_39
abbrev t_Mo_look_35 : List UInt8 := 42 :: t_Mo_look_36
abbrev t_Mo_look_34 : List UInt8 := 27 :: t_Mo_look_35
abbrev t_Mo_look_33 : List UInt8 := 60 :: t_Mo_look_34
abbrev t_Mo_look_32 : List UInt8 := 3 :: t_Mo_look_33
abbrev t_Mo_look_29 : List UInt8 := 167 :: 255 :: 229 :: t_Mo_look_32
abbrev t_Mo_look_26 : List UInt8 := 132 :: 1 :: 1 :: t_Mo_look_29
abbrev t_Mo_look_25 : List UInt8 := 79 :: t_Mo_look_26
abbrev t_Mo_look_22 : List UInt8 := 182 :: 1 :: 67 :: t_Mo_look_25
abbrev t_Mo_look_21 : List UInt8 := 27 :: t_Mo_look_22
abbrev t_Mo_look_20 : List UInt8 := 42 :: t_Mo_look_21
abbrev t_Mo_look_19 : List UInt8 := 27 :: t_Mo_look_20
abbrev t_Mo_look_16 : List UInt8 := 180 :: 0 :: 122 :: t_Mo_look_19
abbrev t_Mo_look_15 : List UInt8 := 42 :: t_Mo_look_16
abbrev t_Mo_look_12 : List UInt8 := 162 :: 0 :: 20 :: t_Mo_look_15
abbrev t_Mo_look_11 : List UInt8 := 96 :: t_Mo_look_12
abbrev t_Mo_look_8 : List UInt8 := 180 :: 1 :: 25 :: t_Mo_look_11
abbrev t_Mo_look_7 : List UInt8 := 42 :: t_Mo_look_8
abbrev t_Mo_look_4 : List UInt8 := 180 :: 1 :: 22 :: t_Mo_look_7
abbrev t_Mo_look_3 : List UInt8 := 42 :: t_Mo_look_4
abbrev t_Mo_look_2 : List UInt8 := 27 :: t_Mo_look_3
abbrev t_Mo_look_1 : List UInt8 := 60 :: t_Mo_look_2
abbrev t_Mo_look_0 : List UInt8 := 3 :: t_Mo_look_1
theorem a_Mo_look_0 : dk_at b_Mo_look 0 t_Mo_look_0 := dk_start (by decide +kernel)
theorem a_Mo_look_1 : dk_at b_Mo_look 1 t_Mo_look_1 := dk_go 1 a_Mo_look_0 rfl
theorem a_Mo_look_2 : dk_at b_Mo_look 2 t_Mo_look_2 := dk_go 1 a_Mo_look_1 rfl
theorem a_Mo_look_3 : dk_at b_Mo_look 3 t_Mo_look_3 := dk_go 1 a_Mo_look_2 rfl
theorem a_Mo_look_4 : dk_at b_Mo_look 4 t_Mo_look_4 := dk_go 1 a_Mo_look_3 rfl
theorem a_Mo_look_7 : dk_at b_Mo_look 7 t_Mo_look_7 := dk_go 3 a_Mo_look_4 rfl
theorem a_Mo_look_8 : dk_at b_Mo_look 8 t_Mo_look_8 := dk_go 1 a_Mo_look_7 rfl
theorem a_Mo_look_11 : dk_at b_Mo_look 11 t_Mo_look_11 := dk_go 3 a_Mo_look_8 rfl
theorem a_Mo_look_12 : dk_at b_Mo_look 12 t_Mo_look_12 := dk_go 1 a_Mo_look_11 rfl
theorem a_Mo_look_15 : dk_at b_Mo_look 15 t_Mo_look_15 := dk_go 3 a_Mo_look_12 rfl
theorem a_Mo_look_16 : dk_at b_Mo_look 16 t_Mo_look_16 := dk_go 1 a_Mo_look_15 rfl
theorem a_Mo_look_19 : dk_at b_Mo_look 19 t_Mo_look_19 := dk_go 3 a_Mo_look_16 rfl
theorem a_Mo_look_20 : dk_at b_Mo_look 20 t_Mo_look_20 := dk_go 1 a_Mo_look_19 rfl
theorem a_Mo_look_21 : dk_at b_Mo_look 21 t_Mo_look_21 := dk_go 1 a_Mo_look_20 rfl
theorem a_Mo_look_22 : dk_at b_Mo_look 22 t_Mo_look_22 := dk_go 1 a_Mo_look_21 rfl
theorem a_Mo_look_25 : dk_at b_Mo_look 25 t_Mo_look_25 := dk_go 3 a_Mo_look_22 rfl
theorem a_Mo_look_26 : dk_at b_Mo_look 26 t_Mo_look_26 := dk_go 1 a_Mo_look_25 rfl
theorem a_Mo_look_29 : dk_at b_Mo_look 29 t_Mo_look_29 := dk_go 3 a_Mo_look_26 rfl
theorem a_Mo_look_32 : dk_at b_Mo_look 32 t_Mo_look_32 := dk_go 3 a_Mo_look_29 rfl
theorem a_Mo_look_33 : dk_at b_Mo_look 33 t_Mo_look_33 := dk_go 1 a_Mo_look_32 rfl
theorem a_Mo_look_34 : dk_at b_Mo_look 34 t_Mo_look_34 := dk_go 1 a_Mo_look_33 rfl
theorem a_Mo_look_35 : dk_at b_Mo_look 35 t_Mo_look_35 := dk_go 1 a_Mo_look_34 rfl
theorem a_Mo_look_36 : dk_at b_Mo_look 36 t_Mo_look_36 := dk_go 1 a_Mo_look_35 rfl
theorem a_Mo_look_39 : dk_at b_Mo_look 39 t_Mo_look_39 := dk_go 3 a_Mo_look_36 rfl
theorem a_Mo_look_42 : dk_at b_Mo_look 42 t_Mo_look_42 := dk_go 3 a_Mo_look_39 rfl
theorem a_Mo_look_43 : dk_at b_Mo_look 43 t_Mo_look_43 := dk_go 1 a_Mo_look_42 rfl
theorem a_Mo_look_44 : dk_at b_Mo_look 44 t_Mo_look_44 := dk_go 1 a_Mo_look_43 rfl
theorem a_Mo_look_47 : dk_at b_Mo_look 47 t_Mo_look_47 := dk_go 3 a_Mo_look_44 rfl
theorem a_Mo_look_48 : dk_at b_Mo_look 48 t_Mo_look_48 := dk_go 1 a_Mo_look_47 rfl
theorem a_Mo_look_49 : dk_at b_Mo_look 49 t_Mo_look_49 := dk_go 1 a_Mo_look_48 rfl
theorem a_Mo_look_50 : dk_at b_Mo_look 50 t_Mo_look_50 := dk_go 1 a_Mo_look_49 rfl
theorem a_Mo_look_53 : dk_at b_Mo_look 53 t_Mo_look_53 := dk_go 3 a_Mo_look_50 rfl
theorem a_Mo_look_54 : dk_at b_Mo_look 54 t_Mo_look_54 := dk_go 1 a_Mo_look_53 rfl
theorem a_Mo_look_55 : dk_at b_Mo_look 55 t_Mo_look_55 := dk_go 1 a_Mo_look_54 rfl
theorem a_Mo_look_58 : dk_at b_Mo_look 58 t_Mo_look_58 := dk_go 3 a_Mo_look_55 rfl
theorem a_Mo_look_59 : dk_at b_Mo_look 59 t_Mo_look_59 := dk_go 1 a_Mo_look_58 rfl
theorem a_Mo_look_60 : dk_at b_Mo_look 60 t_Mo_look_60 := dk_go 1 a_Mo_look_59 rfl
theorem a_Mo_look_61 : dk_at b_Mo_look 61 t_Mo_look_61 := dk_go 1 a_Mo_look_60 rfl
theorem a_Mo_look_62 : dk_at b_Mo_look 62 t_Mo_look_62 := dk_go 1 a_Mo_look_61 rfl
theorem a_Mo_look_65 : dk_at b_Mo_look 65 t_Mo_look_65 := dk_go 3 a_Mo_look_62 rfl
theorem a_Mo_look_66 : dk_at b_Mo_look 66 t_Mo_look_66 := dk_go 1 a_Mo_look_65 rfl
theorem a_Mo_look_67 : dk_at b_Mo_look 67 t_Mo_look_67 := dk_go 1 a_Mo_look_66 rfl
theorem a_Mo_look_70 : dk_at b_Mo_look 70 t_Mo_look_70 := dk_go 3 a_Mo_look_67 rfl
theorem a_Mo_look_71 : dk_at b_Mo_look 71 t_Mo_look_71 := dk_go 1 a_Mo_look_70 rfl
theorem a_Mo_look_72 : dk_at b_Mo_look 72 t_Mo_look_72 := dk_go 1 a_Mo_look_71 rfl
theorem a_Mo_look_75 : dk_at b_Mo_look 75 t_Mo_look_75 := dk_go 3 a_Mo_look_72 rfl
theorem a_Mo_look_76 : dk_at b_Mo_look 76 t_Mo_look_76 := dk_go 1 a_Mo_look_75 rfl
theorem a_Mo_look_79 : dk_at b_Mo_look 79 t_Mo_look_79 := dk_go 3 a_Mo_look_76 rfl
theorem a_Mo_look_81 : dk_at b_Mo_look 81 t_Mo_look_81 := dk_go 2 a_Mo_look_79 rfl
theorem a_Mo_look_82 : dk_at b_Mo_look 82 t_Mo_look_82 := dk_go 1 a_Mo_look_81 rfl
theorem a_Mo_look_83 : dk_at b_Mo_look 83 t_Mo_look_83 := dk_go 1 a_Mo_look_82 rfl
theorem a_Mo_look_84 : dk_at b_Mo_look 84 t_Mo_look_84 := dk_go 1 a_Mo_look_83 rfl
theorem a_Mo_look_85 : dk_at b_Mo_look 85 t_Mo_look_85 := dk_go 1 a_Mo_look_84 rfl
theorem a_Mo_look_86 : dk_at b_Mo_look 86 t_Mo_look_86 := dk_go 1 a_Mo_look_85 rfl
theorem a_Mo_look_87 : dk_at b_Mo_look 87 t_Mo_look_87 := dk_go 1 a_Mo_look_86 rfl
theorem a_Mo_look_88 : dk_at b_Mo_look 88 t_Mo_look_88 := dk_go 1 a_Mo_look_87 rfl
theorem a_Mo_look_89 : dk_at b_Mo_look 89 t_Mo_look_89 := dk_go 1 a_Mo_look_88 rfl
theorem a_Mo_look_90 : dk_at b_Mo_look 90 t_Mo_look_90 := dk_go 1 a_Mo_look_89 rfl
theorem a_Mo_look_93 : dk_at b_Mo_look 93 t_Mo_look_93 := dk_go 3 a_Mo_look_90 rfl
theorem a_Mo_look_94 : dk_at b_Mo_look 94 t_Mo_look_94 := dk_go 1 a_Mo_look_93 rfl
theorem a_Mo_look_95 : dk_at b_Mo_look 95 t_Mo_look_95 := dk_go 1 a_Mo_look_94 rfl
theorem a_Mo_look_98 : dk_at b_Mo_look 98 t_Mo_look_98 := dk_go 3 a_Mo_look_95 rfl
theorem a_Mo_look_101 : dk_at b_Mo_look 101 t_Mo_look_101 := dk_go 3 a_Mo_look_98 rfl
theorem a_Mo_look_104 : dk_at b_Mo_look 104 t_Mo_look_104 := dk_go 3 a_Mo_look_101 rfl
theorem a_Mo_look_107 : dk_at b_Mo_look 107 t_Mo_look_107 := dk_go 3 a_Mo_look_104 rfl
theorem a_Mo_look_110 : dk_at b_Mo_look 110 t_Mo_look_110 := dk_go 3 a_Mo_look_107 rfl
theorem d_Mo_look_0 : decode b_Mo_look 0 = .ok (.iconst 0, 1) := dk_0 a_Mo_look_0 (dko_3 _)
theorem d_Mo_look_1 : decode b_Mo_look 1 = .ok (.istore_n 1, 1) := dk_0 a_Mo_look_1 (dko_60 _)
theorem d_Mo_look_2 : decode b_Mo_look 2 = .ok (.iload_n 1, 1) := dk_0 a_Mo_look_2 (dko_27 _)
theorem d_Mo_look_3 : decode b_Mo_look 3 = .ok (.aload_n 0, 1) := dk_0 a_Mo_look_3 (dko_42 _)
theorem d_Mo_look_4 : decode b_Mo_look 4 = .ok (.getfield 278, 3) := dk_U2 a_Mo_look_4 (dko_180 _) rfl
theorem d_Mo_look_7 : decode b_Mo_look 7 = .ok (.aload_n 0, 1) := dk_0 a_Mo_look_7 (dko_42 _)
theorem d_Mo_look_8 : decode b_Mo_look 8 = .ok (.getfield 281, 3) := dk_U2 a_Mo_look_8 (dko_180 _) rfl
theorem d_Mo_look_11 : decode b_Mo_look 11 = .ok (.iadd, 1) := dk_0 a_Mo_look_11 (dko_96 _)
theorem d_Mo_look_12 : decode b_Mo_look 12 = .ok (.if_icmp .ge 20, 3) := dk_S2 a_Mo_look_12 (dko_162 _) (by decide +kernel)
theorem d_Mo_look_15 : decode b_Mo_look 15 = .ok (.aload_n 0, 1) := dk_0 a_Mo_look_15 (dko_42 _)
theorem d_Mo_look_16 : decode b_Mo_look 16 = .ok (.getfield 122, 3) := dk_U2 a_Mo_look_16 (dko_180 _) rfl
theorem d_Mo_look_19 : decode b_Mo_look 19 = .ok (.iload_n 1, 1) := dk_0 a_Mo_look_19 (dko_27 _)
theorem d_Mo_look_20 : decode b_Mo_look 20 = .ok (.aload_n 0, 1) := dk_0 a_Mo_look_20 (dko_42 _)
theorem d_Mo_look_21 : decode b_Mo_look 21 = .ok (.iload_n 1, 1) := dk_0 a_Mo_look_21 (dko_27 _)
theorem d_Mo_look_22 : decode b_Mo_look 22 = .ok (.invokevirtual 323, 3) := dk_U2 a_Mo_look_22 (dko_182 _) rfl
theorem d_Mo_look_25 : decode b_Mo_look 25 = .ok (.iastore, 1) := dk_0 a_Mo_look_25 (dko_79 _)
theorem d_Mo_look_26 : decode b_Mo_look 26 = .ok (.iinc 1 1, 3) := dk_US a_Mo_look_26 (dko_132 _) (by decide +kernel)
theorem d_Mo_look_29 : decode b_Mo_look 29 = .ok (.goto (-27), 3) := dk_S2 a_Mo_look_29 (dko_167 _) (by decide +kernel)
theorem d_Mo_look_32 : decode b_Mo_look 32 = .ok (.iconst 0, 1) := dk_0 a_Mo_look_32 (dko_3 _)
theorem d_Mo_look_33 : decode b_Mo_look 33 = .ok (.istore_n 1, 1) := dk_0 a_Mo_look_33 (dko_60 _)
theorem d_Mo_look_34 : decode b_Mo_look 34 = .ok (.iload_n 1, 1) := dk_0 a_Mo_look_34 (dko_27 _)
theorem d_Mo_look_35 : decode b_Mo_look 35 = .ok (.aload_n 0, 1) := dk_0 a_Mo_look_35 (dko_42 _)
theorem d_Mo_look_36 : decode b_Mo_look 36 = .ok (.getfield 284, 3) := dk_U2 a_Mo_look_36 (dko_180 _) rfl
theorem d_Mo_look_39 : decode b_Mo_look 39 = .ok (.if_icmp .ge 71, 3) := dk_S2 a_Mo_look_39 (dko_162 _) (by decide +kernel)
theorem d_Mo_look_42 : decode b_Mo_look 42 = .ok (.aload_n 0, 1) := dk_0 a_Mo_look_42 (dko_42 _)
theorem d_Mo_look_43 : decode b_Mo_look 43 = .ok (.aload_n 0, 1) := dk_0 a_Mo_look_43 (dko_42 _)
theorem d_Mo_look_44 : decode b_Mo_look 44 = .ok (.getfield 86, 3) := dk_U2 a_Mo_look_44 (dko_180 _) rfl
theorem d_Mo_look_47 : decode b_Mo_look 47 = .ok (.iload_n 1, 1) := dk_0 a_Mo_look_47 (dko_27 _)
theorem d_Mo_look_48 : decode b_Mo_look 48 = .ok (.iaload, 1) := dk_0 a_Mo_look_48 (dko_46 _)
theorem d_Mo_look_49 : decode b_Mo_look 49 = .ok (.aload_n 0, 1) := dk_0 a_Mo_look_49 (dko_42 _)
theorem d_Mo_look_50 : decode b_Mo_look 50 = .ok (.getfield 89, 3) := dk_U2 a_Mo_look_50 (dko_180 _) rfl
theorem d_Mo_look_53 : decode b_Mo_look 53 = .ok (.iload_n 1, 1) := dk_0 a_Mo_look_53 (dko_27 _)
theorem d_Mo_look_54 : decode b_Mo_look 54 = .ok (.iaload, 1) := dk_0 a_Mo_look_54 (dko_46 _)
theorem d_Mo_look_55 : decode b_Mo_look 55 = .ok (.invokevirtual 362, 3) := dk_U2 a_Mo_look_55 (dko_182 _) rfl
theorem d_Mo_look_58 : decode b_Mo_look 58 = .ok (.iconst 0, 1) := dk_0 a_Mo_look_58 (dko_3 _)
theorem d_Mo_look_59 : decode b_Mo_look 59 = .ok (.istore_n 2, 1) := dk_0 a_Mo_look_59 (dko_61 _)
theorem d_Mo_look_60 : decode b_Mo_look 60 = .ok (.iload_n 2, 1) := dk_0 a_Mo_look_60 (dko_28 _)
theorem d_Mo_look_61 : decode b_Mo_look 61 = .ok (.aload_n 0, 1) := dk_0 a_Mo_look_61 (dko_42 _)
theorem d_Mo_look_62 : decode b_Mo_look 62 = .ok (.getfield 95, 3) := dk_U2 a_Mo_look_62 (dko_180 _) rfl
theorem d_Mo_look_65 : decode b_Mo_look 65 = .ok (.iload_n 1, 1) := dk_0 a_Mo_look_65 (dko_27 _)
theorem d_Mo_look_66 : decode b_Mo_look 66 = .ok (.iaload, 1) := dk_0 a_Mo_look_66 (dko_46 _)
theorem d_Mo_look_67 : decode b_Mo_look 67 = .ok (.if_icmp .ge 37, 3) := dk_S2 a_Mo_look_67 (dko_162 _) (by decide +kernel)
theorem d_Mo_look_70 : decode b_Mo_look 70 = .ok (.aload_n 0, 1) := dk_0 a_Mo_look_70 (dko_42 _)
theorem d_Mo_look_71 : decode b_Mo_look 71 = .ok (.aload_n 0, 1) := dk_0 a_Mo_look_71 (dko_42 _)
theorem d_Mo_look_72 : decode b_Mo_look 72 = .ok (.getfield 278, 3) := dk_U2 a_Mo_look_72 (dko_180 _) rfl
theorem d_Mo_look_75 : decode b_Mo_look 75 = .ok (.aload_n 0, 1) := dk_0 a_Mo_look_75 (dko_42 _)
theorem d_Mo_look_76 : decode b_Mo_look 76 = .ok (.getfield 98, 3) := dk_U2 a_Mo_look_76 (dko_180 _) rfl
theorem d_Mo_look_79 : decode b_Mo_look 79 = .ok (.bipush 24, 2) := dk_S1 a_Mo_look_79 (dko_16 _) (by decide +kernel)
theorem d_Mo_look_81 : decode b_Mo_look 81 = .ok (.iload_n 1, 1) := dk_0 a_Mo_look_81 (dko_27 _)
theorem d_Mo_look_82 : decode b_Mo_look 82 = .ok (.imul, 1) := dk_0 a_Mo_look_82 (dko_104 _)
theorem d_Mo_look_83 : decode b_Mo_look 83 = .ok (.iload_n 2, 1) := dk_0 a_Mo_look_83 (dko_28 _)
theorem d_Mo_look_84 : decode b_Mo_look 84 = .ok (.iadd, 1) := dk_0 a_Mo_look_84 (dko_96 _)
theorem d_Mo_look_85 : decode b_Mo_look 85 = .ok (.iaload, 1) := dk_0 a_Mo_look_85 (dko_46 _)
theorem d_Mo_look_86 : decode b_Mo_look 86 = .ok (.iconst 2, 1) := dk_0 a_Mo_look_86 (dko_5 _)
theorem d_Mo_look_87 : decode b_Mo_look 87 = .ok (.idiv, 1) := dk_0 a_Mo_look_87 (dko_108 _)
theorem d_Mo_look_88 : decode b_Mo_look 88 = .ok (.iadd, 1) := dk_0 a_Mo_look_88 (dko_96 _)
theorem d_Mo_look_89 : decode b_Mo_look 89 = .ok (.aload_n 0, 1) := dk_0 a_Mo_look_89 (dko_42 _)
theorem d_Mo_look_90 : decode b_Mo_look 90 = .ok (.getfield 89, 3) := dk_U2 a_Mo_look_90 (dko_180 _) rfl
theorem d_Mo_look_93 : decode b_Mo_look 93 = .ok (.iload_n 1, 1) := dk_0 a_Mo_look_93 (dko_27 _)
theorem d_Mo_look_94 : decode b_Mo_look 94 = .ok (.iaload, 1) := dk_0 a_Mo_look_94 (dko_46 _)
theorem d_Mo_look_95 : decode b_Mo_look 95 = .ok (.invokevirtual 362, 3) := dk_U2 a_Mo_look_95 (dko_182 _) rfl
theorem d_Mo_look_98 : decode b_Mo_look 98 = .ok (.iinc 2 1, 3) := dk_US a_Mo_look_98 (dko_132 _) (by decide +kernel)
theorem d_Mo_look_101 : decode b_Mo_look 101 = .ok (.goto (-41), 3) := dk_S2 a_Mo_look_101 (dko_167 _) (by decide +kernel)
theorem d_Mo_look_104 : decode b_Mo_look 104 = .ok (.iinc 1 1, 3) := dk_US a_Mo_look_104 (dko_132 _) (by decide +kernel)
theorem d_Mo_look_107 : decode b_Mo_look 107 = .ok (.goto (-73), 3) := dk_S2 a_Mo_look_107 (dko_167 _) (by decide +kernel)
theorem d_Mo_look_110 : decode b_Mo_look 110 = .ok (.return_, 1) := dk_0 a_Mo_look_110 (dko_177 _)
set_option maxHeartbeats 4000000 in
set_option maxRecDepth 100000 in
theorem ok_Mo_look (pc : Nat) : OpS mt mi_Mo_look pc (cs_Mo_look pc) := (os_n (os_n (os_n (os_n (os_n (os_n (os_l (so_iconst d_Mo_look_0 (by decide))) (os_l (so_istore_n d_Mo_look_1 rfl (by decide)))) (os_n (os_l (so_iload_n d_Mo_look_2 rfl)) (os_l (so_aload_n d_Mo_look_3 rfl)))) (os_n (os_n (os_l (so_get (C := R_Mo) (T := F_Mo) (N := 87) (j := 4) in_Mo rfl (by decide) mw_1798 d_Mo_look_4)) (os_l (so_aload_n d_Mo_look_7 rfl))) (os_n (os_l (so_get (C := R_Mo) (T := F_Mo) (N := 87) (j := 11) in_Mo rfl (by decide) mw_1805 d_Mo_look_8)) (os_l (so_iadd d_Mo_look_11))))) (os_n (os_n (os_n (os_l (so_icge d_Mo_look_12 (by decide))) (os_l (so_aload_n d_Mo_look_15 rfl))) (os_n (os_l (so_get (C := R_Mo) (T := F_Mo) (N := 87) (j := 42) in_Mo rfl (by decide) mw_1836 d_Mo_look_16)) (os_l (so_iload_n d_Mo_look_19 rfl)))) (os_n (os_n (os_l (so_aload_n d_Mo_look_20 rfl)) (os_l (so_iload_n d_Mo_look_21 rfl))) (os_n (os_l (so_callV (iv := mi_Mo_liquidIn) rfl rfl rfl mw_2373 mw_2375 sl_146 mw_18 mw_2376 ⟨by decide +kernel, by decide +kernel, by decide +kernel⟩ (by decide) d_Mo_look_22)) (os_l (so_iastore d_Mo_look_25)))))) (os_n (os_n (os_n (os_n (os_l (so_iinc d_Mo_look_26 (by decide) (by decide))) (os_l (so_goto d_Mo_look_29 (by decide)))) (os_n (os_l (so_iconst d_Mo_look_32 (by decide))) (os_l (so_istore_n d_Mo_look_33 rfl (by decide))))) (os_n (os_n (os_l (so_iload_n d_Mo_look_34 rfl)) (os_l (so_aload_n d_Mo_look_35 rfl))) (os_n (os_l (so_get (C := R_Mo) (T := F_Mo) (N := 87) (j := 26) in_Mo rfl (by decide) mw_1820 d_Mo_look_36)) (os_l (so_icge d_Mo_look_39 (by decide)))))) (os_n (os_n (os_n (os_l (so_aload_n d_Mo_look_42 rfl)) (os_l (so_aload_n d_Mo_look_43 rfl))) (os_n (os_l (so_get (C := R_Mo) (T := F_Mo) (N := 87) (j := 28) in_Mo rfl (by decide) mw_1822 d_Mo_look_44)) (os_l (so_iload_n d_Mo_look_47 rfl)))) (os_n (os_n (os_l (so_iaload d_Mo_look_48)) (os_l (so_aload_n d_Mo_look_49 rfl))) (os_n (os_l (so_get (C := R_Mo) (T := F_Mo) (N := 87) (j := 29) in_Mo rfl (by decide) mw_1823 d_Mo_look_50)) (os_n (os_l (so_iload_n d_Mo_look_53 rfl)) (os_l (so_iaload d_Mo_look_54)))))))) (os_n (os_n (os_n (os_n (os_n (os_l (so_callV (iv := mi_Mo_carry) rfl rfl rfl mw_2377 mw_2379 sl_147 mw_18 mw_2380 ⟨by decide +kernel, by decide +kernel, by decide +kernel⟩ (by decide) d_Mo_look_55)) (os_l (so_iconst d_Mo_look_58 (by decide)))) (os_n (os_l (so_istore_n d_Mo_look_59 rfl (by decide))) (os_l (so_iload_n d_Mo_look_60 rfl)))) (os_n (os_n (os_l (so_aload_n d_Mo_look_61 rfl)) (os_l (so_get (C := R_Mo) (T := F_Mo) (N := 87) (j := 31) in_Mo rfl (by decide) mw_1825 d_Mo_look_62))) (os_n (os_l (so_iload_n d_Mo_look_65 rfl)) (os_l (so_iaload d_Mo_look_66))))) (os_n (os_n (os_n (os_l (so_icge d_Mo_look_67 (by decide))) (os_l (so_aload_n d_Mo_look_70 rfl))) (os_n (os_l (so_aload_n d_Mo_look_71 rfl)) (os_l (so_get (C := R_Mo) (T := F_Mo) (N := 87) (j := 4) in_Mo rfl (by decide) mw_1798 d_Mo_look_72)))) (os_n (os_n (os_l (so_aload_n d_Mo_look_75 rfl)) (os_l (so_get (C := R_Mo) (T := F_Mo) (N := 87) (j := 32) in_Mo rfl (by decide) mw_1826 d_Mo_look_76))) (os_n (os_l (so_bipush d_Mo_look_79 (by decide))) (os_l (so_iload_n d_Mo_look_81 rfl)))))) (os_n (os_n (os_n (os_n (os_l (so_imul d_Mo_look_82)) (os_l (so_iload_n d_Mo_look_83 rfl))) (os_n (os_l (so_iadd d_Mo_look_84)) (os_l (so_iaload d_Mo_look_85)))) (os_n (os_n (os_l (so_iconst d_Mo_look_86 (by decide))) (os_l (so_idiv d_Mo_look_87))) (os_n (os_l (so_iadd d_Mo_look_88)) (os_l (so_aload_n d_Mo_look_89 rfl))))) (os_n (os_n (os_n (os_l (so_get (C := R_Mo) (T := F_Mo) (N := 87) (j := 29) in_Mo rfl (by decide) mw_1823 d_Mo_look_90)) (os_l (so_iload_n d_Mo_look_93 rfl))) (os_n (os_l (so_iaload d_Mo_look_94)) (os_l (so_callV (iv := mi_Mo_carry) rfl rfl rfl mw_2377 mw_2379 sl_147 mw_18 mw_2380 ⟨by decide +kernel, by decide +kernel, by decide +kernel⟩ (by decide) d_Mo_look_95)))) (os_n (os_n (os_l (so_iinc d_Mo_look_98 (by decide) (by decide))) (os_l (so_goto d_Mo_look_101 (by decide)))) (os_n (os_l (so_iinc d_Mo_look_104 (by decide) (by decide))) (os_n (os_l (so_goto d_Mo_look_107 (by decide))) (os_l (so_return rfl d_Mo_look_110)))))))))
abbrev t_Mo_carry_25 : List UInt8 := 177 :: []
abbrev t_Mo_carry_24 : List UInt8 := 79 :: t_Mo_carry_25
abbrev t_Mo_carry_23 : List UInt8 := 46 :: t_Mo_carry_24
abbrev t_Mo_carry_22 : List UInt8 := 27 :: t_Mo_carry_23
abbrev t_Mo_carry_19 : List UInt8 := 180 :: 0 :: 122 :: t_Mo_carry_22
abbrev t_Mo_carry_18 : List UInt8 := 42 :: t_Mo_carry_19
abbrev t_Mo_carry_15 : List UInt8 := 167 :: 0 :: 9 :: t_Mo_carry_18
abbrev t_Mo_carry_14 : List UInt8 := 28 :: t_Mo_carry_15
abbrev t_Mo_carry_11 : List UInt8 := 154 :: 0 :: 7 :: t_Mo_carry_14
abbrev t_Mo_carry_10 : List UInt8 := 46 :: t_Mo_carry_11
abbrev t_Mo_carry_9 : List UInt8 := 27 :: t_Mo_carry_10
abbrev t_Mo_carry_6 : List UInt8 := 180 :: 0 :: 122 :: t_Mo_carry_9
abbrev t_Mo_carry_5 : List UInt8 := 42 :: t_Mo_carry_6
abbrev t_Mo_carry_4 : List UInt8 := 27 :: t_Mo_carry_5
abbrev t_Mo_carry_1 : List UInt8 := 180 :: 0 :: 122 :: t_Mo_carry_4
abbrev t_Mo_carry_0 : List UInt8 := 42 :: t_Mo_carry_1
theorem a_Mo_carry_0 : dk_at b_Mo_carry 0 t_Mo_carry_0 := dk_start (by decide +kernel)
theorem a_Mo_carry_1 : dk_at b_Mo_carry 1 t_Mo_carry_1 := dk_go 1 a_Mo_carry_0 rfl
theorem a_Mo_carry_4 : dk_at b_Mo_carry 4 t_Mo_carry_4 := dk_go 3 a_Mo_carry_1 rfl
theorem a_Mo_carry_5 : dk_at b_Mo_carry 5 t_Mo_carry_5 := dk_go 1 a_Mo_carry_4 rfl
theorem a_Mo_carry_6 : dk_at b_Mo_carry 6 t_Mo_carry_6 := dk_go 1 a_Mo_carry_5 rfl
theorem a_Mo_carry_9 : dk_at b_Mo_carry 9 t_Mo_carry_9 := dk_go 3 a_Mo_carry_6 rfl
theorem a_Mo_carry_10 : dk_at b_Mo_carry 10 t_Mo_carry_10 := dk_go 1 a_Mo_carry_9 rfl
theorem a_Mo_carry_11 : dk_at b_Mo_carry 11 t_Mo_carry_11 := dk_go 1 a_Mo_carry_10 rfl
theorem a_Mo_carry_14 : dk_at b_Mo_carry 14 t_Mo_carry_14 := dk_go 3 a_Mo_carry_11 rfl
theorem a_Mo_carry_15 : dk_at b_Mo_carry 15 t_Mo_carry_15 := dk_go 1 a_Mo_carry_14 rfl
theorem a_Mo_carry_18 : dk_at b_Mo_carry 18 t_Mo_carry_18 := dk_go 3 a_Mo_carry_15 rfl
theorem a_Mo_carry_19 : dk_at b_Mo_carry 19 t_Mo_carry_19 := dk_go 1 a_Mo_carry_18 rfl
theorem a_Mo_carry_22 : dk_at b_Mo_carry 22 t_Mo_carry_22 := dk_go 3 a_Mo_carry_19 rfl
theorem a_Mo_carry_23 : dk_at b_Mo_carry 23 t_Mo_carry_23 := dk_go 1 a_Mo_carry_22 rfl
theorem a_Mo_carry_24 : dk_at b_Mo_carry 24 t_Mo_carry_24 := dk_go 1 a_Mo_carry_23 rfl
theorem a_Mo_carry_25 : dk_at b_Mo_carry 25 t_Mo_carry_25 := dk_go 1 a_Mo_carry_24 rfl
theorem d_Mo_carry_0 : decode b_Mo_carry 0 = .ok (.aload_n 0, 1) := dk_0 a_Mo_carry_0 (dko_42 _)
theorem d_Mo_carry_1 : decode b_Mo_carry 1 = .ok (.getfield 122, 3) := dk_U2 a_Mo_carry_1 (dko_180 _) rfl
theorem d_Mo_carry_4 : decode b_Mo_carry 4 = .ok (.iload_n 1, 1) := dk_0 a_Mo_carry_4 (dko_27 _)
theorem d_Mo_carry_5 : decode b_Mo_carry 5 = .ok (.aload_n 0, 1) := dk_0 a_Mo_carry_5 (dko_42 _)
theorem d_Mo_carry_6 : decode b_Mo_carry 6 = .ok (.getfield 122, 3) := dk_U2 a_Mo_carry_6 (dko_180 _) rfl
theorem d_Mo_carry_9 : decode b_Mo_carry 9 = .ok (.iload_n 1, 1) := dk_0 a_Mo_carry_9 (dko_27 _)
theorem d_Mo_carry_10 : decode b_Mo_carry 10 = .ok (.iaload, 1) := dk_0 a_Mo_carry_10 (dko_46 _)
theorem d_Mo_carry_11 : decode b_Mo_carry 11 = .ok (.ifCond .ne 7, 3) := dk_S2 a_Mo_carry_11 (dko_154 _) (by decide +kernel)
theorem d_Mo_carry_14 : decode b_Mo_carry 14 = .ok (.iload_n 2, 1) := dk_0 a_Mo_carry_14 (dko_28 _)
theorem d_Mo_carry_15 : decode b_Mo_carry 15 = .ok (.goto 9, 3) := dk_S2 a_Mo_carry_15 (dko_167 _) (by decide +kernel)
theorem d_Mo_carry_18 : decode b_Mo_carry 18 = .ok (.aload_n 0, 1) := dk_0 a_Mo_carry_18 (dko_42 _)
theorem d_Mo_carry_19 : decode b_Mo_carry 19 = .ok (.getfield 122, 3) := dk_U2 a_Mo_carry_19 (dko_180 _) rfl
theorem d_Mo_carry_22 : decode b_Mo_carry 22 = .ok (.iload_n 1, 1) := dk_0 a_Mo_carry_22 (dko_27 _)
theorem d_Mo_carry_23 : decode b_Mo_carry 23 = .ok (.iaload, 1) := dk_0 a_Mo_carry_23 (dko_46 _)
theorem d_Mo_carry_24 : decode b_Mo_carry 24 = .ok (.iastore, 1) := dk_0 a_Mo_carry_24 (dko_79 _)
theorem d_Mo_carry_25 : decode b_Mo_carry 25 = .ok (.return_, 1) := dk_0 a_Mo_carry_25 (dko_177 _)
set_option maxHeartbeats 4000000 in
set_option maxRecDepth 100000 in
theorem ok_Mo_carry (pc : Nat) : OpS mt mi_Mo_carry pc (cs_Mo_carry pc) := (os_n (os_n (os_n (os_n (os_l (so_aload_n d_Mo_carry_0 rfl)) (os_l (so_get (C := R_Mo) (T := F_Mo) (N := 87) (j := 42) in_Mo rfl (by decide) mw_1836 d_Mo_carry_1))) (os_n (os_l (so_iload_n d_Mo_carry_4 rfl)) (os_l (so_aload_n d_Mo_carry_5 rfl)))) (os_n (os_n (os_l (so_get (C := R_Mo) (T := F_Mo) (N := 87) (j := 42) in_Mo rfl (by decide) mw_1836 d_Mo_carry_6)) (os_l (so_iload_n d_Mo_carry_9 rfl))) (os_n (os_l (so_iaload d_Mo_carry_10)) (os_l (so_ifne d_Mo_carry_11 (by decide)))))) (os_n (os_n (os_n (os_l (so_iload_n d_Mo_carry_14 rfl)) (os_l (so_goto d_Mo_carry_15 (by decide)))) (os_n (os_l (so_aload_n d_Mo_carry_18 rfl)) (os_l (so_get (C := R_Mo) (T := F_Mo) (N := 87) (j := 42) in_Mo rfl (by decide) mw_1836 d_Mo_carry_19)))) (os_n (os_n (os_l (so_iload_n d_Mo_carry_22 rfl)) (os_l (so_iaload d_Mo_carry_23))) (os_n (os_l (so_iastore d_Mo_carry_24)) (os_l (so_return rfl d_Mo_carry_25))))))
abbrev t_Mo_danger_69 : List UInt8 := 172 :: []
abbrev t_Mo_danger_68 : List UInt8 := 2 :: t_Mo_danger_69
abbrev t_Mo_danger_65 : List UInt8 := 167 :: 0 :: 4 :: t_Mo_danger_68
abbrev t_Mo_danger_62 : List UInt8 := 180 :: 1 :: 100 :: t_Mo_danger_65
abbrev t_Mo_danger_61 : List UInt8 := 42 :: t_Mo_danger_62
abbrev t_Mo_danger_58 : List UInt8 := 160 :: 0 :: 10 :: t_Mo_danger_61
abbrev t_Mo_danger_57 : List UInt8 := 6 :: t_Mo_danger_58
abbrev t_Mo_danger_56 : List UInt8 := 27 :: t_Mo_danger_57
abbrev t_Mo_danger_53 : List UInt8 := 167 :: 0 :: 16 :: t_Mo_danger_56
abbrev t_Mo_danger_50 : List UInt8 := 180 :: 1 :: 97 :: t_Mo_danger_53
abbrev t_Mo_danger_49 : List UInt8 := 42 :: t_Mo_danger_50
abbrev t_Mo_danger_46 : List UInt8 := 160 :: 0 :: 10 :: t_Mo_danger_49
abbrev t_Mo_danger_45 : List UInt8 := 5 :: t_Mo_danger_46
abbrev t_Mo_danger_44 : List UInt8 := 27 :: t_Mo_danger_45
abbrev t_Mo_danger_41 : List UInt8 := 167 :: 0 :: 28 :: t_Mo_danger_44
abbrev t_Mo_danger_38 : List UInt8 := 180 :: 1 :: 94 :: t_Mo_danger_41
abbrev t_Mo_danger_37 : List UInt8 := 42 :: t_Mo_danger_38
abbrev t_Mo_danger_34 : List UInt8 := 160 :: 0 :: 10 :: t_Mo_danger_37
abbrev t_Mo_danger_33 : List UInt8 := 4 :: t_Mo_danger_34
abbrev t_Mo_danger_32 : List UInt8 := 27 :: t_Mo_danger_33
abbrev t_Mo_danger_29 : List UInt8 := 167 :: 0 :: 40 :: t_Mo_danger_32
abbrev t_Mo_danger_26 : List UInt8 := 180 :: 1 :: 91 :: t_Mo_danger_29
abbrev t_Mo_danger_25 : List UInt8 := 42 :: t_Mo_danger_26
abbrev t_Mo_danger_22 : List UInt8 := 154 :: 0 :: 10 :: t_Mo_danger_25
abbrev t_Mo_danger_21 : List UInt8 := 27 :: t_Mo_danger_22
abbrev t_Mo_danger_20 : List UInt8 := 172 :: t_Mo_danger_21
abbrev t_Mo_danger_19 : List UInt8 := 2 :: t_Mo_danger_20
abbrev t_Mo_danger_16 : List UInt8 := 167 :: 0 :: 4 :: t_Mo_danger_19
abbrev t_Mo_danger_15 : List UInt8 := 3 :: t_Mo_danger_16
abbrev t_Mo_danger_12 : List UInt8 := 154 :: 0 :: 7 :: t_Mo_danger_15
abbrev t_Mo_danger_11 : List UInt8 := 27 :: t_Mo_danger_12
abbrev t_Mo_danger_8 : List UInt8 := 153 :: 0 :: 13 :: t_Mo_danger_11
abbrev t_Mo_danger_5 : List UInt8 := 182 :: 1 :: 113 :: t_Mo_danger_8
abbrev t_Mo_danger_4 : List UInt8 := 42 :: t_Mo_danger_5
abbrev t_Mo_danger_1 : List UInt8 := 182 :: 1 :: 110 :: t_Mo_danger_4
abbrev t_Mo_danger_0 : List UInt8 := 42 :: t_Mo_danger_1
theorem a_Mo_danger_0 : dk_at b_Mo_danger 0 t_Mo_danger_0 := dk_start (by decide +kernel)
theorem a_Mo_danger_1 : dk_at b_Mo_danger 1 t_Mo_danger_1 := dk_go 1 a_Mo_danger_0 rfl
theorem a_Mo_danger_4 : dk_at b_Mo_danger 4 t_Mo_danger_4 := dk_go 3 a_Mo_danger_1 rfl
theorem a_Mo_danger_5 : dk_at b_Mo_danger 5 t_Mo_danger_5 := dk_go 1 a_Mo_danger_4 rfl
theorem a_Mo_danger_8 : dk_at b_Mo_danger 8 t_Mo_danger_8 := dk_go 3 a_Mo_danger_5 rfl
theorem a_Mo_danger_11 : dk_at b_Mo_danger 11 t_Mo_danger_11 := dk_go 3 a_Mo_danger_8 rfl
theorem a_Mo_danger_12 : dk_at b_Mo_danger 12 t_Mo_danger_12 := dk_go 1 a_Mo_danger_11 rfl
theorem a_Mo_danger_15 : dk_at b_Mo_danger 15 t_Mo_danger_15 := dk_go 3 a_Mo_danger_12 rfl
theorem a_Mo_danger_16 : dk_at b_Mo_danger 16 t_Mo_danger_16 := dk_go 1 a_Mo_danger_15 rfl
theorem a_Mo_danger_19 : dk_at b_Mo_danger 19 t_Mo_danger_19 := dk_go 3 a_Mo_danger_16 rfl
theorem a_Mo_danger_20 : dk_at b_Mo_danger 20 t_Mo_danger_20 := dk_go 1 a_Mo_danger_19 rfl
theorem a_Mo_danger_21 : dk_at b_Mo_danger 21 t_Mo_danger_21 := dk_go 1 a_Mo_danger_20 rfl
theorem a_Mo_danger_22 : dk_at b_Mo_danger 22 t_Mo_danger_22 := dk_go 1 a_Mo_danger_21 rfl
theorem a_Mo_danger_25 : dk_at b_Mo_danger 25 t_Mo_danger_25 := dk_go 3 a_Mo_danger_22 rfl
theorem a_Mo_danger_26 : dk_at b_Mo_danger 26 t_Mo_danger_26 := dk_go 1 a_Mo_danger_25 rfl
theorem a_Mo_danger_29 : dk_at b_Mo_danger 29 t_Mo_danger_29 := dk_go 3 a_Mo_danger_26 rfl
theorem a_Mo_danger_32 : dk_at b_Mo_danger 32 t_Mo_danger_32 := dk_go 3 a_Mo_danger_29 rfl
theorem a_Mo_danger_33 : dk_at b_Mo_danger 33 t_Mo_danger_33 := dk_go 1 a_Mo_danger_32 rfl
theorem a_Mo_danger_34 : dk_at b_Mo_danger 34 t_Mo_danger_34 := dk_go 1 a_Mo_danger_33 rfl
theorem a_Mo_danger_37 : dk_at b_Mo_danger 37 t_Mo_danger_37 := dk_go 3 a_Mo_danger_34 rfl
theorem a_Mo_danger_38 : dk_at b_Mo_danger 38 t_Mo_danger_38 := dk_go 1 a_Mo_danger_37 rfl
theorem a_Mo_danger_41 : dk_at b_Mo_danger 41 t_Mo_danger_41 := dk_go 3 a_Mo_danger_38 rfl
theorem a_Mo_danger_44 : dk_at b_Mo_danger 44 t_Mo_danger_44 := dk_go 3 a_Mo_danger_41 rfl
theorem a_Mo_danger_45 : dk_at b_Mo_danger 45 t_Mo_danger_45 := dk_go 1 a_Mo_danger_44 rfl
theorem a_Mo_danger_46 : dk_at b_Mo_danger 46 t_Mo_danger_46 := dk_go 1 a_Mo_danger_45 rfl
theorem a_Mo_danger_49 : dk_at b_Mo_danger 49 t_Mo_danger_49 := dk_go 3 a_Mo_danger_46 rfl
theorem a_Mo_danger_50 : dk_at b_Mo_danger 50 t_Mo_danger_50 := dk_go 1 a_Mo_danger_49 rfl
theorem a_Mo_danger_53 : dk_at b_Mo_danger 53 t_Mo_danger_53 := dk_go 3 a_Mo_danger_50 rfl
theorem a_Mo_danger_56 : dk_at b_Mo_danger 56 t_Mo_danger_56 := dk_go 3 a_Mo_danger_53 rfl
theorem a_Mo_danger_57 : dk_at b_Mo_danger 57 t_Mo_danger_57 := dk_go 1 a_Mo_danger_56 rfl
theorem a_Mo_danger_58 : dk_at b_Mo_danger 58 t_Mo_danger_58 := dk_go 1 a_Mo_danger_57 rfl
theorem a_Mo_danger_61 : dk_at b_Mo_danger 61 t_Mo_danger_61 := dk_go 3 a_Mo_danger_58 rfl
theorem a_Mo_danger_62 : dk_at b_Mo_danger 62 t_Mo_danger_62 := dk_go 1 a_Mo_danger_61 rfl
theorem a_Mo_danger_65 : dk_at b_Mo_danger 65 t_Mo_danger_65 := dk_go 3 a_Mo_danger_62 rfl
theorem a_Mo_danger_68 : dk_at b_Mo_danger 68 t_Mo_danger_68 := dk_go 3 a_Mo_danger_65 rfl
theorem a_Mo_danger_69 : dk_at b_Mo_danger 69 t_Mo_danger_69 := dk_go 1 a_Mo_danger_68 rfl
theorem d_Mo_danger_0 : decode b_Mo_danger 0 = .ok (.aload_n 0, 1) := dk_0 a_Mo_danger_0 (dko_42 _)
theorem d_Mo_danger_1 : decode b_Mo_danger 1 = .ok (.invokevirtual 366, 3) := dk_U2 a_Mo_danger_1 (dko_182 _) rfl
theorem d_Mo_danger_4 : decode b_Mo_danger 4 = .ok (.aload_n 0, 1) := dk_0 a_Mo_danger_4 (dko_42 _)
theorem d_Mo_danger_5 : decode b_Mo_danger 5 = .ok (.invokevirtual 369, 3) := dk_U2 a_Mo_danger_5 (dko_182 _) rfl
theorem d_Mo_danger_8 : decode b_Mo_danger 8 = .ok (.ifCond .eq 13, 3) := dk_S2 a_Mo_danger_8 (dko_153 _) (by decide +kernel)
theorem d_Mo_danger_11 : decode b_Mo_danger 11 = .ok (.iload_n 1, 1) := dk_0 a_Mo_danger_11 (dko_27 _)
theorem d_Mo_danger_12 : decode b_Mo_danger 12 = .ok (.ifCond .ne 7, 3) := dk_S2 a_Mo_danger_12 (dko_154 _) (by decide +kernel)
theorem d_Mo_danger_15 : decode b_Mo_danger 15 = .ok (.iconst 0, 1) := dk_0 a_Mo_danger_15 (dko_3 _)
theorem d_Mo_danger_16 : decode b_Mo_danger 16 = .ok (.goto 4, 3) := dk_S2 a_Mo_danger_16 (dko_167 _) (by decide +kernel)
theorem d_Mo_danger_19 : decode b_Mo_danger 19 = .ok (.iconst (-1), 1) := dk_0 a_Mo_danger_19 (dko_2 _)
theorem d_Mo_danger_20 : decode b_Mo_danger 20 = .ok (.ireturn, 1) := dk_0 a_Mo_danger_20 (dko_172 _)
theorem d_Mo_danger_21 : decode b_Mo_danger 21 = .ok (.iload_n 1, 1) := dk_0 a_Mo_danger_21 (dko_27 _)
theorem d_Mo_danger_22 : decode b_Mo_danger 22 = .ok (.ifCond .ne 10, 3) := dk_S2 a_Mo_danger_22 (dko_154 _) (by decide +kernel)
theorem d_Mo_danger_25 : decode b_Mo_danger 25 = .ok (.aload_n 0, 1) := dk_0 a_Mo_danger_25 (dko_42 _)
theorem d_Mo_danger_26 : decode b_Mo_danger 26 = .ok (.getfield 347, 3) := dk_U2 a_Mo_danger_26 (dko_180 _) rfl
theorem d_Mo_danger_29 : decode b_Mo_danger 29 = .ok (.goto 40, 3) := dk_S2 a_Mo_danger_29 (dko_167 _) (by decide +kernel)
theorem d_Mo_danger_32 : decode b_Mo_danger 32 = .ok (.iload_n 1, 1) := dk_0 a_Mo_danger_32 (dko_27 _)
theorem d_Mo_danger_33 : decode b_Mo_danger 33 = .ok (.iconst 1, 1) := dk_0 a_Mo_danger_33 (dko_4 _)
theorem d_Mo_danger_34 : decode b_Mo_danger 34 = .ok (.if_icmp .ne 10, 3) := dk_S2 a_Mo_danger_34 (dko_160 _) (by decide +kernel)
theorem d_Mo_danger_37 : decode b_Mo_danger 37 = .ok (.aload_n 0, 1) := dk_0 a_Mo_danger_37 (dko_42 _)
theorem d_Mo_danger_38 : decode b_Mo_danger 38 = .ok (.getfield 350, 3) := dk_U2 a_Mo_danger_38 (dko_180 _) rfl
theorem d_Mo_danger_41 : decode b_Mo_danger 41 = .ok (.goto 28, 3) := dk_S2 a_Mo_danger_41 (dko_167 _) (by decide +kernel)
theorem d_Mo_danger_44 : decode b_Mo_danger 44 = .ok (.iload_n 1, 1) := dk_0 a_Mo_danger_44 (dko_27 _)
theorem d_Mo_danger_45 : decode b_Mo_danger 45 = .ok (.iconst 2, 1) := dk_0 a_Mo_danger_45 (dko_5 _)
theorem d_Mo_danger_46 : decode b_Mo_danger 46 = .ok (.if_icmp .ne 10, 3) := dk_S2 a_Mo_danger_46 (dko_160 _) (by decide +kernel)
theorem d_Mo_danger_49 : decode b_Mo_danger 49 = .ok (.aload_n 0, 1) := dk_0 a_Mo_danger_49 (dko_42 _)
theorem d_Mo_danger_50 : decode b_Mo_danger 50 = .ok (.getfield 353, 3) := dk_U2 a_Mo_danger_50 (dko_180 _) rfl
theorem d_Mo_danger_53 : decode b_Mo_danger 53 = .ok (.goto 16, 3) := dk_S2 a_Mo_danger_53 (dko_167 _) (by decide +kernel)
theorem d_Mo_danger_56 : decode b_Mo_danger 56 = .ok (.iload_n 1, 1) := dk_0 a_Mo_danger_56 (dko_27 _)
theorem d_Mo_danger_57 : decode b_Mo_danger 57 = .ok (.iconst 3, 1) := dk_0 a_Mo_danger_57 (dko_6 _)
theorem d_Mo_danger_58 : decode b_Mo_danger 58 = .ok (.if_icmp .ne 10, 3) := dk_S2 a_Mo_danger_58 (dko_160 _) (by decide +kernel)
theorem d_Mo_danger_61 : decode b_Mo_danger 61 = .ok (.aload_n 0, 1) := dk_0 a_Mo_danger_61 (dko_42 _)
theorem d_Mo_danger_62 : decode b_Mo_danger 62 = .ok (.getfield 356, 3) := dk_U2 a_Mo_danger_62 (dko_180 _) rfl
theorem d_Mo_danger_65 : decode b_Mo_danger 65 = .ok (.goto 4, 3) := dk_S2 a_Mo_danger_65 (dko_167 _) (by decide +kernel)
theorem d_Mo_danger_68 : decode b_Mo_danger 68 = .ok (.iconst (-1), 1) := dk_0 a_Mo_danger_68 (dko_2 _)
theorem d_Mo_danger_69 : decode b_Mo_danger 69 = .ok (.ireturn, 1) := dk_0 a_Mo_danger_69 (dko_172 _)
set_option maxHeartbeats 4000000 in
set_option maxRecDepth 100000 in
theorem ok_Mo_danger (pc : Nat) : OpS mt mi_Mo_danger pc (cs_Mo_danger pc) := (os_n (os_n (os_n (os_n (os_n (os_l (so_aload_n d_Mo_danger_0 rfl)) (os_l (so_callV (iv := mi_Mo_look) rfl rfl rfl mw_2369 mw_2371 sl_145 mw_18 mw_2372 ⟨by decide +kernel, by decide +kernel, by decide +kernel⟩ (by decide) d_Mo_danger_1))) (os_n (os_l (so_aload_n d_Mo_danger_4 rfl)) (os_l (so_callV (iv := mi_Mo_isSafe) rfl rfl rfl mw_2381 mw_2383 sl_148 mw_18 mw_2384 ⟨by decide +kernel, by decide +kernel, by decide +kernel⟩ (by decide) d_Mo_danger_5)))) (os_n (os_n (os_l (so_ifeq d_Mo_danger_8 (by decide))) (os_l (so_iload_n d_Mo_danger_11 rfl))) (os_n (os_l (so_ifne d_Mo_danger_12 (by decide))) (os_n (os_l (so_iconst d_Mo_danger_15 (by decide))) (os_l (so_goto d_Mo_danger_16 (by decide))))))) (os_n (os_n (os_n (os_l (so_iconst d_Mo_danger_19 (by decide))) (os_l (so_ireturn rfl d_Mo_danger_20))) (os_n (os_l (so_iload_n d_Mo_danger_21 rfl)) (os_l (so_ifne d_Mo_danger_22 (by decide))))) (os_n (os_n (os_l (so_aload_n d_Mo_danger_25 rfl)) (os_l (so_get (C := R_Mo) (T := F_Mo) (N := 87) (j := 45) in_Mo rfl (by decide) mw_1839 d_Mo_danger_26))) (os_n (os_l (so_goto d_Mo_danger_29 (by decide))) (os_n (os_l (so_iload_n d_Mo_danger_32 rfl)) (os_l (so_iconst d_Mo_danger_33 (by decide)))))))) (os_n (os_n (os_n (os_n (os_l (so_icne d_Mo_danger_34 (by decide))) (os_l (so_aload_n d_Mo_danger_37 rfl))) (os_n (os_l (so_get (C := R_Mo) (T := F_Mo) (N := 87) (j := 46) in_Mo rfl (by decide) mw_1840 d_Mo_danger_38)) (os_l (so_goto d_Mo_danger_41 (by decide))))) (os_n (os_n (os_l (so_iload_n d_Mo_danger_44 rfl)) (os_l (so_iconst d_Mo_danger_45 (by decide)))) (os_n (os_l (so_icne d_Mo_danger_46 (by decide))) (os_n (os_l (so_aload_n d_Mo_danger_49 rfl)) (os_l (so_get (C := R_Mo) (T := F_Mo) (N := 87) (j := 47) in_Mo rfl (by decide) mw_1841 d_Mo_danger_50)))))) (os_n (os_n (os_n (os_l (so_goto d_Mo_danger_53 (by decide))) (os_l (so_iload_n d_Mo_danger_56 rfl))) (os_n (os_l (so_iconst d_Mo_danger_57 (by decide))) (os_l (so_icne d_Mo_danger_58 (by decide))))) (os_n (os_n (os_l (so_aload_n d_Mo_danger_61 rfl)) (os_l (so_get (C := R_Mo) (T := F_Mo) (N := 87) (j := 48) in_Mo rfl (by decide) mw_1842 d_Mo_danger_62))) (os_n (os_l (so_goto d_Mo_danger_65 (by decide))) (os_n (os_l (so_iconst d_Mo_danger_68 (by decide))) (os_l (so_ireturn rfl d_Mo_danger_69))))))))
abbrev t_Mo_held_44 : List UInt8 := 172 :: []
abbrev t_Mo_held_43 : List UInt8 := 2 :: t_Mo_held_44
abbrev t_Mo_held_40 : List UInt8 := 167 :: 255 :: 218 :: t_Mo_held_43
abbrev t_Mo_held_37 : List UInt8 := 132 :: 2 :: 1 :: t_Mo_held_40
abbrev t_Mo_held_36 : List UInt8 := 172 :: t_Mo_held_37
abbrev t_Mo_held_35 : List UInt8 := 46 :: t_Mo_held_36
abbrev t_Mo_held_34 : List UInt8 := 96 :: t_Mo_held_35
abbrev t_Mo_held_33 : List UInt8 := 27 :: t_Mo_held_34
abbrev t_Mo_held_32 : List UInt8 := 104 :: t_Mo_held_33
abbrev t_Mo_held_31 : List UInt8 := 28 :: t_Mo_held_32
abbrev t_Mo_held_29 : List UInt8 := 16 :: 20 :: t_Mo_held_31
abbrev t_Mo_held_26 : List UInt8 := 180 :: 0 :: 101 :: t_Mo_held_29
abbrev t_Mo_held_25 : List UInt8 := 42 :: t_Mo_held_26
abbrev t_Mo_held_22 : List UInt8 := 159 :: 0 :: 15 :: t_Mo_held_25
abbrev t_Mo_held_21 : List UInt8 := 2 :: t_Mo_held_22
abbrev t_Mo_held_20 : List UInt8 := 46 :: t_Mo_held_21
abbrev t_Mo_held_19 : List UInt8 := 96 :: t_Mo_held_20
abbrev t_Mo_held_18 : List UInt8 := 27 :: t_Mo_held_19
abbrev t_Mo_held_17 : List UInt8 := 104 :: t_Mo_held_18
abbrev t_Mo_held_16 : List UInt8 := 28 :: t_Mo_held_17
abbrev t_Mo_held_14 : List UInt8 := 16 :: 20 :: t_Mo_held_16
abbrev t_Mo_held_11 : List UInt8 := 180 :: 0 :: 101 :: t_Mo_held_14
abbrev t_Mo_held_10 : List UInt8 := 42 :: t_Mo_held_11
abbrev t_Mo_held_7 : List UInt8 := 162 :: 0 :: 36 :: t_Mo_held_10
abbrev t_Mo_held_4 : List UInt8 := 180 :: 1 :: 28 :: t_Mo_held_7
abbrev t_Mo_held_3 : List UInt8 := 42 :: t_Mo_held_4
abbrev t_Mo_held_2 : List UInt8 := 28 :: t_Mo_held_3
abbrev t_Mo_held_1 : List UInt8 := 61 :: t_Mo_held_2
abbrev t_Mo_held_0 : List UInt8 := 3 :: t_Mo_held_1
theorem a_Mo_held_0 : dk_at b_Mo_held 0 t_Mo_held_0 := dk_start (by decide +kernel)
theorem a_Mo_held_1 : dk_at b_Mo_held 1 t_Mo_held_1 := dk_go 1 a_Mo_held_0 rfl
theorem a_Mo_held_2 : dk_at b_Mo_held 2 t_Mo_held_2 := dk_go 1 a_Mo_held_1 rfl
theorem a_Mo_held_3 : dk_at b_Mo_held 3 t_Mo_held_3 := dk_go 1 a_Mo_held_2 rfl
theorem a_Mo_held_4 : dk_at b_Mo_held 4 t_Mo_held_4 := dk_go 1 a_Mo_held_3 rfl
theorem a_Mo_held_7 : dk_at b_Mo_held 7 t_Mo_held_7 := dk_go 3 a_Mo_held_4 rfl
theorem a_Mo_held_10 : dk_at b_Mo_held 10 t_Mo_held_10 := dk_go 3 a_Mo_held_7 rfl
theorem a_Mo_held_11 : dk_at b_Mo_held 11 t_Mo_held_11 := dk_go 1 a_Mo_held_10 rfl
theorem a_Mo_held_14 : dk_at b_Mo_held 14 t_Mo_held_14 := dk_go 3 a_Mo_held_11 rfl
theorem a_Mo_held_16 : dk_at b_Mo_held 16 t_Mo_held_16 := dk_go 2 a_Mo_held_14 rfl
theorem a_Mo_held_17 : dk_at b_Mo_held 17 t_Mo_held_17 := dk_go 1 a_Mo_held_16 rfl
theorem a_Mo_held_18 : dk_at b_Mo_held 18 t_Mo_held_18 := dk_go 1 a_Mo_held_17 rfl
theorem a_Mo_held_19 : dk_at b_Mo_held 19 t_Mo_held_19 := dk_go 1 a_Mo_held_18 rfl
theorem a_Mo_held_20 : dk_at b_Mo_held 20 t_Mo_held_20 := dk_go 1 a_Mo_held_19 rfl
theorem a_Mo_held_21 : dk_at b_Mo_held 21 t_Mo_held_21 := dk_go 1 a_Mo_held_20 rfl
theorem a_Mo_held_22 : dk_at b_Mo_held 22 t_Mo_held_22 := dk_go 1 a_Mo_held_21 rfl
theorem a_Mo_held_25 : dk_at b_Mo_held 25 t_Mo_held_25 := dk_go 3 a_Mo_held_22 rfl
theorem a_Mo_held_26 : dk_at b_Mo_held 26 t_Mo_held_26 := dk_go 1 a_Mo_held_25 rfl
theorem a_Mo_held_29 : dk_at b_Mo_held 29 t_Mo_held_29 := dk_go 3 a_Mo_held_26 rfl
theorem a_Mo_held_31 : dk_at b_Mo_held 31 t_Mo_held_31 := dk_go 2 a_Mo_held_29 rfl
theorem a_Mo_held_32 : dk_at b_Mo_held 32 t_Mo_held_32 := dk_go 1 a_Mo_held_31 rfl
theorem a_Mo_held_33 : dk_at b_Mo_held 33 t_Mo_held_33 := dk_go 1 a_Mo_held_32 rfl
theorem a_Mo_held_34 : dk_at b_Mo_held 34 t_Mo_held_34 := dk_go 1 a_Mo_held_33 rfl
theorem a_Mo_held_35 : dk_at b_Mo_held 35 t_Mo_held_35 := dk_go 1 a_Mo_held_34 rfl
theorem a_Mo_held_36 : dk_at b_Mo_held 36 t_Mo_held_36 := dk_go 1 a_Mo_held_35 rfl
theorem a_Mo_held_37 : dk_at b_Mo_held 37 t_Mo_held_37 := dk_go 1 a_Mo_held_36 rfl
theorem a_Mo_held_40 : dk_at b_Mo_held 40 t_Mo_held_40 := dk_go 3 a_Mo_held_37 rfl
theorem a_Mo_held_43 : dk_at b_Mo_held 43 t_Mo_held_43 := dk_go 3 a_Mo_held_40 rfl
theorem a_Mo_held_44 : dk_at b_Mo_held 44 t_Mo_held_44 := dk_go 1 a_Mo_held_43 rfl
theorem d_Mo_held_0 : decode b_Mo_held 0 = .ok (.iconst 0, 1) := dk_0 a_Mo_held_0 (dko_3 _)
theorem d_Mo_held_1 : decode b_Mo_held 1 = .ok (.istore_n 2, 1) := dk_0 a_Mo_held_1 (dko_61 _)
theorem d_Mo_held_2 : decode b_Mo_held 2 = .ok (.iload_n 2, 1) := dk_0 a_Mo_held_2 (dko_28 _)
theorem d_Mo_held_3 : decode b_Mo_held 3 = .ok (.aload_n 0, 1) := dk_0 a_Mo_held_3 (dko_42 _)
theorem d_Mo_held_4 : decode b_Mo_held 4 = .ok (.getfield 284, 3) := dk_U2 a_Mo_held_4 (dko_180 _) rfl
theorem d_Mo_held_7 : decode b_Mo_held 7 = .ok (.if_icmp .ge 36, 3) := dk_S2 a_Mo_held_7 (dko_162 _) (by decide +kernel)
theorem d_Mo_held_10 : decode b_Mo_held 10 = .ok (.aload_n 0, 1) := dk_0 a_Mo_held_10 (dko_42 _)
theorem d_Mo_held_11 : decode b_Mo_held 11 = .ok (.getfield 101, 3) := dk_U2 a_Mo_held_11 (dko_180 _) rfl
theorem d_Mo_held_14 : decode b_Mo_held 14 = .ok (.bipush 20, 2) := dk_S1 a_Mo_held_14 (dko_16 _) (by decide +kernel)
theorem d_Mo_held_16 : decode b_Mo_held 16 = .ok (.iload_n 2, 1) := dk_0 a_Mo_held_16 (dko_28 _)
theorem d_Mo_held_17 : decode b_Mo_held 17 = .ok (.imul, 1) := dk_0 a_Mo_held_17 (dko_104 _)
theorem d_Mo_held_18 : decode b_Mo_held 18 = .ok (.iload_n 1, 1) := dk_0 a_Mo_held_18 (dko_27 _)
theorem d_Mo_held_19 : decode b_Mo_held 19 = .ok (.iadd, 1) := dk_0 a_Mo_held_19 (dko_96 _)
theorem d_Mo_held_20 : decode b_Mo_held 20 = .ok (.iaload, 1) := dk_0 a_Mo_held_20 (dko_46 _)
theorem d_Mo_held_21 : decode b_Mo_held 21 = .ok (.iconst (-1), 1) := dk_0 a_Mo_held_21 (dko_2 _)
theorem d_Mo_held_22 : decode b_Mo_held 22 = .ok (.if_icmp .eq 15, 3) := dk_S2 a_Mo_held_22 (dko_159 _) (by decide +kernel)
theorem d_Mo_held_25 : decode b_Mo_held 25 = .ok (.aload_n 0, 1) := dk_0 a_Mo_held_25 (dko_42 _)
theorem d_Mo_held_26 : decode b_Mo_held 26 = .ok (.getfield 101, 3) := dk_U2 a_Mo_held_26 (dko_180 _) rfl
theorem d_Mo_held_29 : decode b_Mo_held 29 = .ok (.bipush 20, 2) := dk_S1 a_Mo_held_29 (dko_16 _) (by decide +kernel)
theorem d_Mo_held_31 : decode b_Mo_held 31 = .ok (.iload_n 2, 1) := dk_0 a_Mo_held_31 (dko_28 _)
theorem d_Mo_held_32 : decode b_Mo_held 32 = .ok (.imul, 1) := dk_0 a_Mo_held_32 (dko_104 _)
theorem d_Mo_held_33 : decode b_Mo_held 33 = .ok (.iload_n 1, 1) := dk_0 a_Mo_held_33 (dko_27 _)
theorem d_Mo_held_34 : decode b_Mo_held 34 = .ok (.iadd, 1) := dk_0 a_Mo_held_34 (dko_96 _)
theorem d_Mo_held_35 : decode b_Mo_held 35 = .ok (.iaload, 1) := dk_0 a_Mo_held_35 (dko_46 _)
theorem d_Mo_held_36 : decode b_Mo_held 36 = .ok (.ireturn, 1) := dk_0 a_Mo_held_36 (dko_172 _)
theorem d_Mo_held_37 : decode b_Mo_held 37 = .ok (.iinc 2 1, 3) := dk_US a_Mo_held_37 (dko_132 _) (by decide +kernel)
theorem d_Mo_held_40 : decode b_Mo_held 40 = .ok (.goto (-38), 3) := dk_S2 a_Mo_held_40 (dko_167 _) (by decide +kernel)
theorem d_Mo_held_43 : decode b_Mo_held 43 = .ok (.iconst (-1), 1) := dk_0 a_Mo_held_43 (dko_2 _)
theorem d_Mo_held_44 : decode b_Mo_held 44 = .ok (.ireturn, 1) := dk_0 a_Mo_held_44 (dko_172 _)
set_option maxHeartbeats 4000000 in
set_option maxRecDepth 100000 in
theorem ok_Mo_held (pc : Nat) : OpS mt mi_Mo_held pc (cs_Mo_held pc) := (os_n (os_n (os_n (os_n (os_l (so_iconst d_Mo_held_0 (by decide))) (os_n (os_l (so_istore_n d_Mo_held_1 rfl (by decide))) (os_l (so_iload_n d_Mo_held_2 rfl)))) (os_n (os_n (os_l (so_aload_n d_Mo_held_3 rfl)) (os_l (so_get (C := R_Mo) (T := F_Mo) (N := 87) (j := 26) in_Mo rfl (by decide) mw_1820 d_Mo_held_4))) (os_n (os_l (so_icge d_Mo_held_7 (by decide))) (os_l (so_aload_n d_Mo_held_10 rfl))))) (os_n (os_n (os_l (so_get (C := R_Mo) (T := F_Mo) (N := 87) (j := 33) in_Mo rfl (by decide) mw_1827 d_Mo_held_11)) (os_n (os_l (so_bipush d_Mo_held_14 (by decide))) (os_l (so_iload_n d_Mo_held_16 rfl)))) (os_n (os_n (os_l (so_imul d_Mo_held_17)) (os_l (so_iload_n d_Mo_held_18 rfl))) (os_n (os_l (so_iadd d_Mo_held_19)) (os_l (so_iaload d_Mo_held_20)))))) (os_n (os_n (os_n (os_l (so_iconst d_Mo_held_21 (by decide))) (os_n (os_l (so_iceq d_Mo_held_22 (by decide))) (os_l (so_aload_n d_Mo_held_25 rfl)))) (os_n (os_n (os_l (so_get (C := R_Mo) (T := F_Mo) (N := 87) (j := 33) in_Mo rfl (by decide) mw_1827 d_Mo_held_26)) (os_l (so_bipush d_Mo_held_29 (by decide)))) (os_n (os_l (so_iload_n d_Mo_held_31 rfl)) (os_l (so_imul d_Mo_held_32))))) (os_n (os_n (os_n (os_l (so_iload_n d_Mo_held_33 rfl)) (os_l (so_iadd d_Mo_held_34))) (os_n (os_l (so_iaload d_Mo_held_35)) (os_l (so_ireturn rfl d_Mo_held_36)))) (os_n (os_n (os_l (so_iinc d_Mo_held_37 (by decide) (by decide))) (os_l (so_goto d_Mo_held_40 (by decide)))) (os_n (os_l (so_iconst d_Mo_held_43 (by decide))) (os_l (so_ireturn rfl d_Mo_held_44)))))))
abbrev t_Mo_needOf_136 : List UInt8 := 172 :: []
abbrev t_Mo_needOf_135 : List UInt8 := 2 :: t_Mo_needOf_136
abbrev t_Mo_needOf_132 : List UInt8 := 167 :: 0 :: 4 :: t_Mo_needOf_135
abbrev t_Mo_needOf_130 : List UInt8 := 21 :: 4 :: t_Mo_needOf_132
abbrev t_Mo_needOf_127 : List UInt8 := 160 :: 0 :: 8 :: t_Mo_needOf_130
abbrev t_Mo_needOf_125 : List UInt8 := 21 :: 4 :: t_Mo_needOf_127
abbrev t_Mo_needOf_122 : List UInt8 := 182 :: 1 :: 121 :: t_Mo_needOf_125
abbrev t_Mo_needOf_121 : List UInt8 := 29 :: t_Mo_needOf_122
abbrev t_Mo_needOf_120 : List UInt8 := 42 :: t_Mo_needOf_121
abbrev t_Mo_needOf_117 : List UInt8 := 159 :: 0 :: 13 :: t_Mo_needOf_120
abbrev t_Mo_needOf_116 : List UInt8 := 2 :: t_Mo_needOf_117
abbrev t_Mo_needOf_113 : List UInt8 := 182 :: 1 :: 121 :: t_Mo_needOf_116
abbrev t_Mo_needOf_112 : List UInt8 := 29 :: t_Mo_needOf_113
abbrev t_Mo_needOf_111 : List UInt8 := 42 :: t_Mo_needOf_112
abbrev t_Mo_needOf_109 : List UInt8 := 54 :: 4 :: t_Mo_needOf_111
abbrev t_Mo_needOf_106 : List UInt8 := 184 :: 1 :: 124 :: t_Mo_needOf_109
abbrev t_Mo_needOf_105 : List UInt8 := 46 :: t_Mo_needOf_106
abbrev t_Mo_needOf_104 : List UInt8 := 28 :: t_Mo_needOf_105
abbrev t_Mo_needOf_101 : List UInt8 := 180 :: 0 :: 52 :: t_Mo_needOf_104
abbrev t_Mo_needOf_100 : List UInt8 := 42 :: t_Mo_needOf_101
abbrev t_Mo_needOf_99 : List UInt8 := 46 :: t_Mo_needOf_100
abbrev t_Mo_needOf_98 : List UInt8 := 27 :: t_Mo_needOf_99
abbrev t_Mo_needOf_95 : List UInt8 := 180 :: 0 :: 52 :: t_Mo_needOf_98
abbrev t_Mo_needOf_94 : List UInt8 := 42 :: t_Mo_needOf_95
abbrev t_Mo_needOf_93 : List UInt8 := 100 :: t_Mo_needOf_94
abbrev t_Mo_needOf_92 : List UInt8 := 5 :: t_Mo_needOf_93
abbrev t_Mo_needOf_91 : List UInt8 := 46 :: t_Mo_needOf_92
abbrev t_Mo_needOf_90 : List UInt8 := 29 :: t_Mo_needOf_91
abbrev t_Mo_needOf_87 : List UInt8 := 180 :: 0 :: 27 :: t_Mo_needOf_90
abbrev t_Mo_needOf_86 : List UInt8 := 42 :: t_Mo_needOf_87
abbrev t_Mo_needOf_85 : List UInt8 := 172 :: t_Mo_needOf_86
abbrev t_Mo_needOf_84 : List UInt8 := 2 :: t_Mo_needOf_85
abbrev t_Mo_needOf_81 : List UInt8 := 167 :: 0 :: 4 :: t_Mo_needOf_84
abbrev t_Mo_needOf_80 : List UInt8 := 3 :: t_Mo_needOf_81
abbrev t_Mo_needOf_77 : List UInt8 := 160 :: 0 :: 7 :: t_Mo_needOf_80
abbrev t_Mo_needOf_76 : List UInt8 := 2 :: t_Mo_needOf_77
abbrev t_Mo_needOf_73 : List UInt8 := 182 :: 1 :: 121 :: t_Mo_needOf_76
abbrev t_Mo_needOf_72 : List UInt8 := 29 :: t_Mo_needOf_73
abbrev t_Mo_needOf_71 : List UInt8 := 42 :: t_Mo_needOf_72
abbrev t_Mo_needOf_68 : List UInt8 := 154 :: 0 :: 16 :: t_Mo_needOf_71
abbrev t_Mo_needOf_67 : List UInt8 := 46 :: t_Mo_needOf_68
abbrev t_Mo_needOf_66 : List UInt8 := 27 :: t_Mo_needOf_67
abbrev t_Mo_needOf_63 : List UInt8 := 180 :: 0 :: 52 :: t_Mo_needOf_66
abbrev t_Mo_needOf_62 : List UInt8 := 42 :: t_Mo_needOf_63
abbrev t_Mo_needOf_59 : List UInt8 := 160 :: 0 :: 27 :: t_Mo_needOf_62
abbrev t_Mo_needOf_58 : List UInt8 := 4 :: t_Mo_needOf_59
abbrev t_Mo_needOf_57 : List UInt8 := 46 :: t_Mo_needOf_58
abbrev t_Mo_needOf_56 : List UInt8 := 29 :: t_Mo_needOf_57
abbrev t_Mo_needOf_53 : List UInt8 := 180 :: 0 :: 27 :: t_Mo_needOf_56
abbrev t_Mo_needOf_52 : List UInt8 := 42 :: t_Mo_needOf_53
abbrev t_Mo_needOf_51 : List UInt8 := 172 :: t_Mo_needOf_52
abbrev t_Mo_needOf_50 : List UInt8 := 2 :: t_Mo_needOf_51
abbrev t_Mo_needOf_47 : List UInt8 := 153 :: 0 :: 5 :: t_Mo_needOf_50
abbrev t_Mo_needOf_46 : List UInt8 := 148 :: t_Mo_needOf_47
abbrev t_Mo_needOf_45 : List UInt8 := 9 :: t_Mo_needOf_46
abbrev t_Mo_needOf_44 : List UInt8 := 127 :: t_Mo_needOf_45
abbrev t_Mo_needOf_43 : List UInt8 := 10 :: t_Mo_needOf_44
abbrev t_Mo_needOf_42 : List UInt8 := 123 :: t_Mo_needOf_43
abbrev t_Mo_needOf_41 : List UInt8 := 108 :: t_Mo_needOf_42
abbrev t_Mo_needOf_40 : List UInt8 := 5 :: t_Mo_needOf_41
abbrev t_Mo_needOf_39 : List UInt8 := 28 :: t_Mo_needOf_40
abbrev t_Mo_needOf_36 : List UInt8 := 180 :: 1 :: 117 :: t_Mo_needOf_39
abbrev t_Mo_needOf_35 : List UInt8 := 42 :: t_Mo_needOf_36
abbrev t_Mo_needOf_32 : List UInt8 := 153 :: 0 :: 18 :: t_Mo_needOf_35
abbrev t_Mo_needOf_31 : List UInt8 := 46 :: t_Mo_needOf_32
abbrev t_Mo_needOf_30 : List UInt8 := 29 :: t_Mo_needOf_31
abbrev t_Mo_needOf_27 : List UInt8 := 180 :: 0 :: 27 :: t_Mo_needOf_30
abbrev t_Mo_needOf_26 : List UInt8 := 42 :: t_Mo_needOf_27
abbrev t_Mo_needOf_23 : List UInt8 := 159 :: 0 :: 27 :: t_Mo_needOf_26
abbrev t_Mo_needOf_22 : List UInt8 := 27 :: t_Mo_needOf_23
abbrev t_Mo_needOf_21 : List UInt8 := 28 :: t_Mo_needOf_22
abbrev t_Mo_needOf_18 : List UInt8 := 160 :: 0 :: 32 :: t_Mo_needOf_21
abbrev t_Mo_needOf_17 : List UInt8 := 29 :: t_Mo_needOf_18
abbrev t_Mo_needOf_16 : List UInt8 := 46 :: t_Mo_needOf_17
abbrev t_Mo_needOf_15 : List UInt8 := 28 :: t_Mo_needOf_16
abbrev t_Mo_needOf_12 : List UInt8 := 180 :: 0 :: 49 :: t_Mo_needOf_15
abbrev t_Mo_needOf_11 : List UInt8 := 42 :: t_Mo_needOf_12
abbrev t_Mo_needOf_8 : List UInt8 := 155 :: 0 :: 42 :: t_Mo_needOf_11
abbrev t_Mo_needOf_7 : List UInt8 := 29 :: t_Mo_needOf_8
abbrev t_Mo_needOf_6 : List UInt8 := 62 :: t_Mo_needOf_7
abbrev t_Mo_needOf_5 : List UInt8 := 46 :: t_Mo_needOf_6
abbrev t_Mo_needOf_4 : List UInt8 := 27 :: t_Mo_needOf_5
abbrev t_Mo_needOf_1 : List UInt8 := 180 :: 0 :: 49 :: t_Mo_needOf_4
abbrev t_Mo_needOf_0 : List UInt8 := 42 :: t_Mo_needOf_1
theorem a_Mo_needOf_0 : dk_at b_Mo_needOf 0 t_Mo_needOf_0 := dk_start (by decide +kernel)
theorem a_Mo_needOf_1 : dk_at b_Mo_needOf 1 t_Mo_needOf_1 := dk_go 1 a_Mo_needOf_0 rfl
theorem a_Mo_needOf_4 : dk_at b_Mo_needOf 4 t_Mo_needOf_4 := dk_go 3 a_Mo_needOf_1 rfl
theorem a_Mo_needOf_5 : dk_at b_Mo_needOf 5 t_Mo_needOf_5 := dk_go 1 a_Mo_needOf_4 rfl
theorem a_Mo_needOf_6 : dk_at b_Mo_needOf 6 t_Mo_needOf_6 := dk_go 1 a_Mo_needOf_5 rfl
theorem a_Mo_needOf_7 : dk_at b_Mo_needOf 7 t_Mo_needOf_7 := dk_go 1 a_Mo_needOf_6 rfl
theorem a_Mo_needOf_8 : dk_at b_Mo_needOf 8 t_Mo_needOf_8 := dk_go 1 a_Mo_needOf_7 rfl
theorem a_Mo_needOf_11 : dk_at b_Mo_needOf 11 t_Mo_needOf_11 := dk_go 3 a_Mo_needOf_8 rfl
theorem a_Mo_needOf_12 : dk_at b_Mo_needOf 12 t_Mo_needOf_12 := dk_go 1 a_Mo_needOf_11 rfl
theorem a_Mo_needOf_15 : dk_at b_Mo_needOf 15 t_Mo_needOf_15 := dk_go 3 a_Mo_needOf_12 rfl
theorem a_Mo_needOf_16 : dk_at b_Mo_needOf 16 t_Mo_needOf_16 := dk_go 1 a_Mo_needOf_15 rfl
theorem a_Mo_needOf_17 : dk_at b_Mo_needOf 17 t_Mo_needOf_17 := dk_go 1 a_Mo_needOf_16 rfl
theorem a_Mo_needOf_18 : dk_at b_Mo_needOf 18 t_Mo_needOf_18 := dk_go 1 a_Mo_needOf_17 rfl
theorem a_Mo_needOf_21 : dk_at b_Mo_needOf 21 t_Mo_needOf_21 := dk_go 3 a_Mo_needOf_18 rfl
theorem a_Mo_needOf_22 : dk_at b_Mo_needOf 22 t_Mo_needOf_22 := dk_go 1 a_Mo_needOf_21 rfl
theorem a_Mo_needOf_23 : dk_at b_Mo_needOf 23 t_Mo_needOf_23 := dk_go 1 a_Mo_needOf_22 rfl
theorem a_Mo_needOf_26 : dk_at b_Mo_needOf 26 t_Mo_needOf_26 := dk_go 3 a_Mo_needOf_23 rfl
theorem a_Mo_needOf_27 : dk_at b_Mo_needOf 27 t_Mo_needOf_27 := dk_go 1 a_Mo_needOf_26 rfl
theorem a_Mo_needOf_30 : dk_at b_Mo_needOf 30 t_Mo_needOf_30 := dk_go 3 a_Mo_needOf_27 rfl
theorem a_Mo_needOf_31 : dk_at b_Mo_needOf 31 t_Mo_needOf_31 := dk_go 1 a_Mo_needOf_30 rfl
theorem a_Mo_needOf_32 : dk_at b_Mo_needOf 32 t_Mo_needOf_32 := dk_go 1 a_Mo_needOf_31 rfl
theorem a_Mo_needOf_35 : dk_at b_Mo_needOf 35 t_Mo_needOf_35 := dk_go 3 a_Mo_needOf_32 rfl
theorem a_Mo_needOf_36 : dk_at b_Mo_needOf 36 t_Mo_needOf_36 := dk_go 1 a_Mo_needOf_35 rfl
theorem a_Mo_needOf_39 : dk_at b_Mo_needOf 39 t_Mo_needOf_39 := dk_go 3 a_Mo_needOf_36 rfl
theorem a_Mo_needOf_40 : dk_at b_Mo_needOf 40 t_Mo_needOf_40 := dk_go 1 a_Mo_needOf_39 rfl
theorem a_Mo_needOf_41 : dk_at b_Mo_needOf 41 t_Mo_needOf_41 := dk_go 1 a_Mo_needOf_40 rfl
theorem a_Mo_needOf_42 : dk_at b_Mo_needOf 42 t_Mo_needOf_42 := dk_go 1 a_Mo_needOf_41 rfl
theorem a_Mo_needOf_43 : dk_at b_Mo_needOf 43 t_Mo_needOf_43 := dk_go 1 a_Mo_needOf_42 rfl
theorem a_Mo_needOf_44 : dk_at b_Mo_needOf 44 t_Mo_needOf_44 := dk_go 1 a_Mo_needOf_43 rfl
theorem a_Mo_needOf_45 : dk_at b_Mo_needOf 45 t_Mo_needOf_45 := dk_go 1 a_Mo_needOf_44 rfl
theorem a_Mo_needOf_46 : dk_at b_Mo_needOf 46 t_Mo_needOf_46 := dk_go 1 a_Mo_needOf_45 rfl
theorem a_Mo_needOf_47 : dk_at b_Mo_needOf 47 t_Mo_needOf_47 := dk_go 1 a_Mo_needOf_46 rfl
theorem a_Mo_needOf_50 : dk_at b_Mo_needOf 50 t_Mo_needOf_50 := dk_go 3 a_Mo_needOf_47 rfl
theorem a_Mo_needOf_51 : dk_at b_Mo_needOf 51 t_Mo_needOf_51 := dk_go 1 a_Mo_needOf_50 rfl
theorem a_Mo_needOf_52 : dk_at b_Mo_needOf 52 t_Mo_needOf_52 := dk_go 1 a_Mo_needOf_51 rfl
theorem a_Mo_needOf_53 : dk_at b_Mo_needOf 53 t_Mo_needOf_53 := dk_go 1 a_Mo_needOf_52 rfl
theorem a_Mo_needOf_56 : dk_at b_Mo_needOf 56 t_Mo_needOf_56 := dk_go 3 a_Mo_needOf_53 rfl
theorem a_Mo_needOf_57 : dk_at b_Mo_needOf 57 t_Mo_needOf_57 := dk_go 1 a_Mo_needOf_56 rfl
theorem a_Mo_needOf_58 : dk_at b_Mo_needOf 58 t_Mo_needOf_58 := dk_go 1 a_Mo_needOf_57 rfl
theorem a_Mo_needOf_59 : dk_at b_Mo_needOf 59 t_Mo_needOf_59 := dk_go 1 a_Mo_needOf_58 rfl
theorem a_Mo_needOf_62 : dk_at b_Mo_needOf 62 t_Mo_needOf_62 := dk_go 3 a_Mo_needOf_59 rfl
theorem a_Mo_needOf_63 : dk_at b_Mo_needOf 63 t_Mo_needOf_63 := dk_go 1 a_Mo_needOf_62 rfl
theorem a_Mo_needOf_66 : dk_at b_Mo_needOf 66 t_Mo_needOf_66 := dk_go 3 a_Mo_needOf_63 rfl
theorem a_Mo_needOf_67 : dk_at b_Mo_needOf 67 t_Mo_needOf_67 := dk_go 1 a_Mo_needOf_66 rfl
theorem a_Mo_needOf_68 : dk_at b_Mo_needOf 68 t_Mo_needOf_68 := dk_go 1 a_Mo_needOf_67 rfl
theorem a_Mo_needOf_71 : dk_at b_Mo_needOf 71 t_Mo_needOf_71 := dk_go 3 a_Mo_needOf_68 rfl
theorem a_Mo_needOf_72 : dk_at b_Mo_needOf 72 t_Mo_needOf_72 := dk_go 1 a_Mo_needOf_71 rfl
theorem a_Mo_needOf_73 : dk_at b_Mo_needOf 73 t_Mo_needOf_73 := dk_go 1 a_Mo_needOf_72 rfl
theorem a_Mo_needOf_76 : dk_at b_Mo_needOf 76 t_Mo_needOf_76 := dk_go 3 a_Mo_needOf_73 rfl
theorem a_Mo_needOf_77 : dk_at b_Mo_needOf 77 t_Mo_needOf_77 := dk_go 1 a_Mo_needOf_76 rfl
theorem a_Mo_needOf_80 : dk_at b_Mo_needOf 80 t_Mo_needOf_80 := dk_go 3 a_Mo_needOf_77 rfl
theorem a_Mo_needOf_81 : dk_at b_Mo_needOf 81 t_Mo_needOf_81 := dk_go 1 a_Mo_needOf_80 rfl
theorem a_Mo_needOf_84 : dk_at b_Mo_needOf 84 t_Mo_needOf_84 := dk_go 3 a_Mo_needOf_81 rfl
theorem a_Mo_needOf_85 : dk_at b_Mo_needOf 85 t_Mo_needOf_85 := dk_go 1 a_Mo_needOf_84 rfl
theorem a_Mo_needOf_86 : dk_at b_Mo_needOf 86 t_Mo_needOf_86 := dk_go 1 a_Mo_needOf_85 rfl
theorem a_Mo_needOf_87 : dk_at b_Mo_needOf 87 t_Mo_needOf_87 := dk_go 1 a_Mo_needOf_86 rfl
theorem a_Mo_needOf_90 : dk_at b_Mo_needOf 90 t_Mo_needOf_90 := dk_go 3 a_Mo_needOf_87 rfl
theorem a_Mo_needOf_91 : dk_at b_Mo_needOf 91 t_Mo_needOf_91 := dk_go 1 a_Mo_needOf_90 rfl
theorem a_Mo_needOf_92 : dk_at b_Mo_needOf 92 t_Mo_needOf_92 := dk_go 1 a_Mo_needOf_91 rfl
theorem a_Mo_needOf_93 : dk_at b_Mo_needOf 93 t_Mo_needOf_93 := dk_go 1 a_Mo_needOf_92 rfl
theorem a_Mo_needOf_94 : dk_at b_Mo_needOf 94 t_Mo_needOf_94 := dk_go 1 a_Mo_needOf_93 rfl
theorem a_Mo_needOf_95 : dk_at b_Mo_needOf 95 t_Mo_needOf_95 := dk_go 1 a_Mo_needOf_94 rfl
theorem a_Mo_needOf_98 : dk_at b_Mo_needOf 98 t_Mo_needOf_98 := dk_go 3 a_Mo_needOf_95 rfl
theorem a_Mo_needOf_99 : dk_at b_Mo_needOf 99 t_Mo_needOf_99 := dk_go 1 a_Mo_needOf_98 rfl
theorem a_Mo_needOf_100 : dk_at b_Mo_needOf 100 t_Mo_needOf_100 := dk_go 1 a_Mo_needOf_99 rfl
theorem a_Mo_needOf_101 : dk_at b_Mo_needOf 101 t_Mo_needOf_101 := dk_go 1 a_Mo_needOf_100 rfl
theorem a_Mo_needOf_104 : dk_at b_Mo_needOf 104 t_Mo_needOf_104 := dk_go 3 a_Mo_needOf_101 rfl
theorem a_Mo_needOf_105 : dk_at b_Mo_needOf 105 t_Mo_needOf_105 := dk_go 1 a_Mo_needOf_104 rfl
theorem a_Mo_needOf_106 : dk_at b_Mo_needOf 106 t_Mo_needOf_106 := dk_go 1 a_Mo_needOf_105 rfl
theorem a_Mo_needOf_109 : dk_at b_Mo_needOf 109 t_Mo_needOf_109 := dk_go 3 a_Mo_needOf_106 rfl
theorem a_Mo_needOf_111 : dk_at b_Mo_needOf 111 t_Mo_needOf_111 := dk_go 2 a_Mo_needOf_109 rfl
theorem a_Mo_needOf_112 : dk_at b_Mo_needOf 112 t_Mo_needOf_112 := dk_go 1 a_Mo_needOf_111 rfl
theorem a_Mo_needOf_113 : dk_at b_Mo_needOf 113 t_Mo_needOf_113 := dk_go 1 a_Mo_needOf_112 rfl
theorem a_Mo_needOf_116 : dk_at b_Mo_needOf 116 t_Mo_needOf_116 := dk_go 3 a_Mo_needOf_113 rfl
theorem a_Mo_needOf_117 : dk_at b_Mo_needOf 117 t_Mo_needOf_117 := dk_go 1 a_Mo_needOf_116 rfl
theorem a_Mo_needOf_120 : dk_at b_Mo_needOf 120 t_Mo_needOf_120 := dk_go 3 a_Mo_needOf_117 rfl
theorem a_Mo_needOf_121 : dk_at b_Mo_needOf 121 t_Mo_needOf_121 := dk_go 1 a_Mo_needOf_120 rfl
theorem a_Mo_needOf_122 : dk_at b_Mo_needOf 122 t_Mo_needOf_122 := dk_go 1 a_Mo_needOf_121 rfl
theorem a_Mo_needOf_125 : dk_at b_Mo_needOf 125 t_Mo_needOf_125 := dk_go 3 a_Mo_needOf_122 rfl
theorem a_Mo_needOf_127 : dk_at b_Mo_needOf 127 t_Mo_needOf_127 := dk_go 2 a_Mo_needOf_125 rfl
theorem a_Mo_needOf_130 : dk_at b_Mo_needOf 130 t_Mo_needOf_130 := dk_go 3 a_Mo_needOf_127 rfl
theorem a_Mo_needOf_132 : dk_at b_Mo_needOf 132 t_Mo_needOf_132 := dk_go 2 a_Mo_needOf_130 rfl
theorem a_Mo_needOf_135 : dk_at b_Mo_needOf 135 t_Mo_needOf_135 := dk_go 3 a_Mo_needOf_132 rfl
theorem a_Mo_needOf_136 : dk_at b_Mo_needOf 136 t_Mo_needOf_136 := dk_go 1 a_Mo_needOf_135 rfl
theorem d_Mo_needOf_0 : decode b_Mo_needOf 0 = .ok (.aload_n 0, 1) := dk_0 a_Mo_needOf_0 (dko_42 _)
theorem d_Mo_needOf_1 : decode b_Mo_needOf 1 = .ok (.getfield 49, 3) := dk_U2 a_Mo_needOf_1 (dko_180 _) rfl
theorem d_Mo_needOf_4 : decode b_Mo_needOf 4 = .ok (.iload_n 1, 1) := dk_0 a_Mo_needOf_4 (dko_27 _)
theorem d_Mo_needOf_5 : decode b_Mo_needOf 5 = .ok (.iaload, 1) := dk_0 a_Mo_needOf_5 (dko_46 _)
theorem d_Mo_needOf_6 : decode b_Mo_needOf 6 = .ok (.istore_n 3, 1) := dk_0 a_Mo_needOf_6 (dko_62 _)
theorem d_Mo_needOf_7 : decode b_Mo_needOf 7 = .ok (.iload_n 3, 1) := dk_0 a_Mo_needOf_7 (dko_29 _)
theorem d_Mo_needOf_8 : decode b_Mo_needOf 8 = .ok (.ifCond .lt 42, 3) := dk_S2 a_Mo_needOf_8 (dko_155 _) (by decide +kernel)
theorem d_Mo_needOf_11 : decode b_Mo_needOf 11 = .ok (.aload_n 0, 1) := dk_0 a_Mo_needOf_11 (dko_42 _)
theorem d_Mo_needOf_12 : decode b_Mo_needOf 12 = .ok (.getfield 49, 3) := dk_U2 a_Mo_needOf_12 (dko_180 _) rfl
theorem d_Mo_needOf_15 : decode b_Mo_needOf 15 = .ok (.iload_n 2, 1) := dk_0 a_Mo_needOf_15 (dko_28 _)
theorem d_Mo_needOf_16 : decode b_Mo_needOf 16 = .ok (.iaload, 1) := dk_0 a_Mo_needOf_16 (dko_46 _)
theorem d_Mo_needOf_17 : decode b_Mo_needOf 17 = .ok (.iload_n 3, 1) := dk_0 a_Mo_needOf_17 (dko_29 _)
theorem d_Mo_needOf_18 : decode b_Mo_needOf 18 = .ok (.if_icmp .ne 32, 3) := dk_S2 a_Mo_needOf_18 (dko_160 _) (by decide +kernel)
theorem d_Mo_needOf_21 : decode b_Mo_needOf 21 = .ok (.iload_n 2, 1) := dk_0 a_Mo_needOf_21 (dko_28 _)
theorem d_Mo_needOf_22 : decode b_Mo_needOf 22 = .ok (.iload_n 1, 1) := dk_0 a_Mo_needOf_22 (dko_27 _)
theorem d_Mo_needOf_23 : decode b_Mo_needOf 23 = .ok (.if_icmp .eq 27, 3) := dk_S2 a_Mo_needOf_23 (dko_159 _) (by decide +kernel)
theorem d_Mo_needOf_26 : decode b_Mo_needOf 26 = .ok (.aload_n 0, 1) := dk_0 a_Mo_needOf_26 (dko_42 _)
theorem d_Mo_needOf_27 : decode b_Mo_needOf 27 = .ok (.getfield 27, 3) := dk_U2 a_Mo_needOf_27 (dko_180 _) rfl
theorem d_Mo_needOf_30 : decode b_Mo_needOf 30 = .ok (.iload_n 3, 1) := dk_0 a_Mo_needOf_30 (dko_29 _)
theorem d_Mo_needOf_31 : decode b_Mo_needOf 31 = .ok (.iaload, 1) := dk_0 a_Mo_needOf_31 (dko_46 _)
theorem d_Mo_needOf_32 : decode b_Mo_needOf 32 = .ok (.ifCond .eq 18, 3) := dk_S2 a_Mo_needOf_32 (dko_153 _) (by decide +kernel)
theorem d_Mo_needOf_35 : decode b_Mo_needOf 35 = .ok (.aload_n 0, 1) := dk_0 a_Mo_needOf_35 (dko_42 _)
theorem d_Mo_needOf_36 : decode b_Mo_needOf 36 = .ok (.getfield 373, 3) := dk_U2 a_Mo_needOf_36 (dko_180 _) rfl
theorem d_Mo_needOf_39 : decode b_Mo_needOf 39 = .ok (.iload_n 2, 1) := dk_0 a_Mo_needOf_39 (dko_28 _)
theorem d_Mo_needOf_40 : decode b_Mo_needOf 40 = .ok (.iconst 2, 1) := dk_0 a_Mo_needOf_40 (dko_5 _)
theorem d_Mo_needOf_41 : decode b_Mo_needOf 41 = .ok (.idiv, 1) := dk_0 a_Mo_needOf_41 (dko_108 _)
theorem d_Mo_needOf_42 : decode b_Mo_needOf 42 = .ok (.lshr, 1) := dk_0 a_Mo_needOf_42 (dko_123 _)
theorem d_Mo_needOf_43 : decode b_Mo_needOf 43 = .ok (.lconst 1, 1) := dk_0 a_Mo_needOf_43 (dko_10 _)
theorem d_Mo_needOf_44 : decode b_Mo_needOf 44 = .ok (.land, 1) := dk_0 a_Mo_needOf_44 (dko_127 _)
theorem d_Mo_needOf_45 : decode b_Mo_needOf 45 = .ok (.lconst 0, 1) := dk_0 a_Mo_needOf_45 (dko_9 _)
theorem d_Mo_needOf_46 : decode b_Mo_needOf 46 = .ok (.lcmp, 1) := dk_0 a_Mo_needOf_46 (dko_148 _)
theorem d_Mo_needOf_47 : decode b_Mo_needOf 47 = .ok (.ifCond .eq 5, 3) := dk_S2 a_Mo_needOf_47 (dko_153 _) (by decide +kernel)
theorem d_Mo_needOf_50 : decode b_Mo_needOf 50 = .ok (.iconst (-1), 1) := dk_0 a_Mo_needOf_50 (dko_2 _)
theorem d_Mo_needOf_51 : decode b_Mo_needOf 51 = .ok (.ireturn, 1) := dk_0 a_Mo_needOf_51 (dko_172 _)
theorem d_Mo_needOf_52 : decode b_Mo_needOf 52 = .ok (.aload_n 0, 1) := dk_0 a_Mo_needOf_52 (dko_42 _)
theorem d_Mo_needOf_53 : decode b_Mo_needOf 53 = .ok (.getfield 27, 3) := dk_U2 a_Mo_needOf_53 (dko_180 _) rfl
theorem d_Mo_needOf_56 : decode b_Mo_needOf 56 = .ok (.iload_n 3, 1) := dk_0 a_Mo_needOf_56 (dko_29 _)
theorem d_Mo_needOf_57 : decode b_Mo_needOf 57 = .ok (.iaload, 1) := dk_0 a_Mo_needOf_57 (dko_46 _)
theorem d_Mo_needOf_58 : decode b_Mo_needOf 58 = .ok (.iconst 1, 1) := dk_0 a_Mo_needOf_58 (dko_4 _)
theorem d_Mo_needOf_59 : decode b_Mo_needOf 59 = .ok (.if_icmp .ne 27, 3) := dk_S2 a_Mo_needOf_59 (dko_160 _) (by decide +kernel)
theorem d_Mo_needOf_62 : decode b_Mo_needOf 62 = .ok (.aload_n 0, 1) := dk_0 a_Mo_needOf_62 (dko_42 _)
theorem d_Mo_needOf_63 : decode b_Mo_needOf 63 = .ok (.getfield 52, 3) := dk_U2 a_Mo_needOf_63 (dko_180 _) rfl
theorem d_Mo_needOf_66 : decode b_Mo_needOf 66 = .ok (.iload_n 1, 1) := dk_0 a_Mo_needOf_66 (dko_27 _)
theorem d_Mo_needOf_67 : decode b_Mo_needOf 67 = .ok (.iaload, 1) := dk_0 a_Mo_needOf_67 (dko_46 _)
theorem d_Mo_needOf_68 : decode b_Mo_needOf 68 = .ok (.ifCond .ne 16, 3) := dk_S2 a_Mo_needOf_68 (dko_154 _) (by decide +kernel)
theorem d_Mo_needOf_71 : decode b_Mo_needOf 71 = .ok (.aload_n 0, 1) := dk_0 a_Mo_needOf_71 (dko_42 _)
theorem d_Mo_needOf_72 : decode b_Mo_needOf 72 = .ok (.iload_n 3, 1) := dk_0 a_Mo_needOf_72 (dko_29 _)
theorem d_Mo_needOf_73 : decode b_Mo_needOf 73 = .ok (.invokevirtual 377, 3) := dk_U2 a_Mo_needOf_73 (dko_182 _) rfl
theorem d_Mo_needOf_76 : decode b_Mo_needOf 76 = .ok (.iconst (-1), 1) := dk_0 a_Mo_needOf_76 (dko_2 _)
theorem d_Mo_needOf_77 : decode b_Mo_needOf 77 = .ok (.if_icmp .ne 7, 3) := dk_S2 a_Mo_needOf_77 (dko_160 _) (by decide +kernel)
theorem d_Mo_needOf_80 : decode b_Mo_needOf 80 = .ok (.iconst 0, 1) := dk_0 a_Mo_needOf_80 (dko_3 _)
theorem d_Mo_needOf_81 : decode b_Mo_needOf 81 = .ok (.goto 4, 3) := dk_S2 a_Mo_needOf_81 (dko_167 _) (by decide +kernel)
theorem d_Mo_needOf_84 : decode b_Mo_needOf 84 = .ok (.iconst (-1), 1) := dk_0 a_Mo_needOf_84 (dko_2 _)
theorem d_Mo_needOf_85 : decode b_Mo_needOf 85 = .ok (.ireturn, 1) := dk_0 a_Mo_needOf_85 (dko_172 _)
theorem d_Mo_needOf_86 : decode b_Mo_needOf 86 = .ok (.aload_n 0, 1) := dk_0 a_Mo_needOf_86 (dko_42 _)
theorem d_Mo_needOf_87 : decode b_Mo_needOf 87 = .ok (.getfield 27, 3) := dk_U2 a_Mo_needOf_87 (dko_180 _) rfl
theorem d_Mo_needOf_90 : decode b_Mo_needOf 90 = .ok (.iload_n 3, 1) := dk_0 a_Mo_needOf_90 (dko_29 _)
theorem d_Mo_needOf_91 : decode b_Mo_needOf 91 = .ok (.iaload, 1) := dk_0 a_Mo_needOf_91 (dko_46 _)
theorem d_Mo_needOf_92 : decode b_Mo_needOf 92 = .ok (.iconst 2, 1) := dk_0 a_Mo_needOf_92 (dko_5 _)
theorem d_Mo_needOf_93 : decode b_Mo_needOf 93 = .ok (.isub, 1) := dk_0 a_Mo_needOf_93 (dko_100 _)
theorem d_Mo_needOf_94 : decode b_Mo_needOf 94 = .ok (.aload_n 0, 1) := dk_0 a_Mo_needOf_94 (dko_42 _)
theorem d_Mo_needOf_95 : decode b_Mo_needOf 95 = .ok (.getfield 52, 3) := dk_U2 a_Mo_needOf_95 (dko_180 _) rfl
theorem d_Mo_needOf_98 : decode b_Mo_needOf 98 = .ok (.iload_n 1, 1) := dk_0 a_Mo_needOf_98 (dko_27 _)
theorem d_Mo_needOf_99 : decode b_Mo_needOf 99 = .ok (.iaload, 1) := dk_0 a_Mo_needOf_99 (dko_46 _)
theorem d_Mo_needOf_100 : decode b_Mo_needOf 100 = .ok (.aload_n 0, 1) := dk_0 a_Mo_needOf_100 (dko_42 _)
theorem d_Mo_needOf_101 : decode b_Mo_needOf 101 = .ok (.getfield 52, 3) := dk_U2 a_Mo_needOf_101 (dko_180 _) rfl
theorem d_Mo_needOf_104 : decode b_Mo_needOf 104 = .ok (.iload_n 2, 1) := dk_0 a_Mo_needOf_104 (dko_28 _)
theorem d_Mo_needOf_105 : decode b_Mo_needOf 105 = .ok (.iaload, 1) := dk_0 a_Mo_needOf_105 (dko_46 _)
theorem d_Mo_needOf_106 : decode b_Mo_needOf 106 = .ok (.invokestatic 380, 3) := dk_U2 a_Mo_needOf_106 (dko_184 _) rfl
theorem d_Mo_needOf_109 : decode b_Mo_needOf 109 = .ok (.istore 4, 2) := dk_U1 a_Mo_needOf_109 (dko_54 _) rfl
theorem d_Mo_needOf_111 : decode b_Mo_needOf 111 = .ok (.aload_n 0, 1) := dk_0 a_Mo_needOf_111 (dko_42 _)
theorem d_Mo_needOf_112 : decode b_Mo_needOf 112 = .ok (.iload_n 3, 1) := dk_0 a_Mo_needOf_112 (dko_29 _)
theorem d_Mo_needOf_113 : decode b_Mo_needOf 113 = .ok (.invokevirtual 377, 3) := dk_U2 a_Mo_needOf_113 (dko_182 _) rfl
theorem d_Mo_needOf_116 : decode b_Mo_needOf 116 = .ok (.iconst (-1), 1) := dk_0 a_Mo_needOf_116 (dko_2 _)
theorem d_Mo_needOf_117 : decode b_Mo_needOf 117 = .ok (.if_icmp .eq 13, 3) := dk_S2 a_Mo_needOf_117 (dko_159 _) (by decide +kernel)
theorem d_Mo_needOf_120 : decode b_Mo_needOf 120 = .ok (.aload_n 0, 1) := dk_0 a_Mo_needOf_120 (dko_42 _)
theorem d_Mo_needOf_121 : decode b_Mo_needOf 121 = .ok (.iload_n 3, 1) := dk_0 a_Mo_needOf_121 (dko_29 _)
theorem d_Mo_needOf_122 : decode b_Mo_needOf 122 = .ok (.invokevirtual 377, 3) := dk_U2 a_Mo_needOf_122 (dko_182 _) rfl
theorem d_Mo_needOf_125 : decode b_Mo_needOf 125 = .ok (.iload 4, 2) := dk_U1 a_Mo_needOf_125 (dko_21 _) rfl
theorem d_Mo_needOf_127 : decode b_Mo_needOf 127 = .ok (.if_icmp .ne 8, 3) := dk_S2 a_Mo_needOf_127 (dko_160 _) (by decide +kernel)
theorem d_Mo_needOf_130 : decode b_Mo_needOf 130 = .ok (.iload 4, 2) := dk_U1 a_Mo_needOf_130 (dko_21 _) rfl
theorem d_Mo_needOf_132 : decode b_Mo_needOf 132 = .ok (.goto 4, 3) := dk_S2 a_Mo_needOf_132 (dko_167 _) (by decide +kernel)
theorem d_Mo_needOf_135 : decode b_Mo_needOf 135 = .ok (.iconst (-1), 1) := dk_0 a_Mo_needOf_135 (dko_2 _)
theorem d_Mo_needOf_136 : decode b_Mo_needOf 136 = .ok (.ireturn, 1) := dk_0 a_Mo_needOf_136 (dko_172 _)
set_option maxHeartbeats 4000000 in
set_option maxRecDepth 100000 in
theorem ok_Mo_needOf (pc : Nat) : OpS mt mi_Mo_needOf pc (cs_Mo_needOf pc) := (os_n (os_n (os_n (os_n (os_n (os_n (os_l (so_aload_n d_Mo_needOf_0 rfl)) (os_l (so_get (C := R_Mo) (T := F_Mo) (N := 87) (j := 13) in_Mo rfl (by decide) mw_1807 d_Mo_needOf_1))) (os_n (os_l (so_iload_n d_Mo_needOf_4 rfl)) (os_n (os_l (so_iaload d_Mo_needOf_5)) (os_l (so_istore_n d_Mo_needOf_6 rfl (by decide)))))) (os_n (os_n (os_l (so_iload_n d_Mo_needOf_7 rfl)) (os_l (so_iflt d_Mo_needOf_8 (by decide)))) (os_n (os_l (so_aload_n d_Mo_needOf_11 rfl)) (os_n (os_l (so_get (C := R_Mo) (T := F_Mo) (N := 87) (j := 13) in_Mo rfl (by decide) mw_1807 d_Mo_needOf_12)) (os_l (so_iload_n d_Mo_needOf_15 rfl)))))) (os_n (os_n (os_n (os_l (so_iaload d_Mo_needOf_16)) (os_l (so_iload_n d_Mo_needOf_17 rfl))) (os_n (os_l (so_icne d_Mo_needOf_18 (by decide))) (os_n (os_l (so_iload_n d_Mo_needOf_21 rfl)) (os_l (so_iload_n d_Mo_needOf_22 rfl))))) (os_n (os_n (os_l (so_iceq d_Mo_needOf_23 (by decide))) (os_n (os_l (so_aload_n d_Mo_needOf_26 rfl)) (os_l (so_get (C := R_Mo) (T := F_Mo) (N := 87) (j := 5) in_Mo rfl (by decide) mw_1799 d_Mo_needOf_27)))) (os_n (os_l (so_iload_n d_Mo_needOf_30 rfl)) (os_n (os_l (so_iaload d_Mo_needOf_31)) (os_l (so_ifeq d_Mo_needOf_32 (by decide)))))))) (os_n (os_n (os_n (os_n (os_l (so_aload_n d_Mo_needOf_35 rfl)) (os_l (so_get (C := R_Mo) (T := F_Mo) (N := 87) (j := 40) in_Mo rfl (by decide) mw_1834 d_Mo_needOf_36))) (os_n (os_l (so_iload_n d_Mo_needOf_39 rfl)) (os_n (os_l (so_iconst d_Mo_needOf_40 (by decide))) (os_l (so_idiv d_Mo_needOf_41))))) (os_n (os_n (os_l (so_lshr d_Mo_needOf_42)) (os_l (so_lconst d_Mo_needOf_43 (by decide)))) (os_n (os_l (so_land d_Mo_needOf_44)) (os_n (os_l (so_lconst d_Mo_needOf_45 (by decide))) (os_l (so_lcmp d_Mo_needOf_46)))))) (os_n (os_n (os_n (os_l (so_ifeq d_Mo_needOf_47 (by decide))) (os_l (so_iconst d_Mo_needOf_50 (by decide)))) (os_n (os_l (so_ireturn rfl d_Mo_needOf_51)) (os_n (os_l (so_aload_n d_Mo_needOf_52 rfl)) (os_l (so_get (C := R_Mo) (T := F_Mo) (N := 87) (j := 5) in_Mo rfl (by decide) mw_1799 d_Mo_needOf_53))))) (os_n (os_n (os_l (so_iload_n d_Mo_needOf_56 rfl)) (os_n (os_l (so_iaload d_Mo_needOf_57)) (os_l (so_iconst d_Mo_needOf_58 (by decide))))) (os_n (os_l (so_icne d_Mo_needOf_59 (by decide))) (os_n (os_l (so_aload_n d_Mo_needOf_62 rfl)) (os_l (so_get (C := R_Mo) (T := F_Mo) (N := 87) (j := 14) in_Mo rfl (by decide) mw_1808 d_Mo_needOf_63)))))))) (os_n (os_n (os_n (os_n (os_n (os_l (so_iload_n d_Mo_needOf_66 rfl)) (os_l (so_iaload d_Mo_needOf_67))) (os_n (os_l (so_ifne d_Mo_needOf_68 (by decide))) (os_n (os_l (so_aload_n d_Mo_needOf_71 rfl)) (os_l (so_iload_n d_Mo_needOf_72 rfl))))) (os_n (os_n (os_l (so_callV (iv := mi_Mo_held) rfl rfl rfl mw_2343 mw_2345 sl_141 mw_18 mw_2346 ⟨by decide +kernel, by decide +kernel, by decide +kernel⟩ (by decide) d_Mo_needOf_73)) (os_l (so_iconst d_Mo_needOf_76 (by decide)))) (os_n (os_l (so_icne d_Mo_needOf_77 (by decide))) (os_n (os_l (so_iconst d_Mo_needOf_80 (by decide))) (os_l (so_goto d_Mo_needOf_81 (by decide))))))) (os_n (os_n (os_n (os_l (so_iconst d_Mo_needOf_84 (by decide))) (os_l (so_ireturn rfl d_Mo_needOf_85))) (os_n (os_l (so_aload_n d_Mo_needOf_86 rfl)) (os_n (os_l (so_get (C := R_Mo) (T := F_Mo) (N := 87) (j := 5) in_Mo rfl (by decide) mw_1799 d_Mo_needOf_87)) (os_l (so_iload_n d_Mo_needOf_90 rfl))))) (os_n (os_n (os_l (so_iaload d_Mo_needOf_91)) (os_n (os_l (so_iconst d_Mo_needOf_92 (by decide))) (os_l (so_isub d_Mo_needOf_93)))) (os_n (os_l (so_aload_n d_Mo_needOf_94 rfl)) (os_n (os_l (so_get (C := R_Mo) (T := F_Mo) (N := 87) (j := 14) in_Mo rfl (by decide) mw_1808 d_Mo_needOf_95)) (os_l (so_iload_n d_Mo_needOf_98 rfl))))))) (os_n (os_n (os_n (os_n (os_l (so_iaload d_Mo_needOf_99)) (os_l (so_aload_n d_Mo_needOf_100 rfl))) (os_n (os_l (so_get (C := R_Mo) (T := F_Mo) (N := 87) (j := 14) in_Mo rfl (by decide) mw_1808 d_Mo_needOf_101)) (os_n (os_l (so_iload_n d_Mo_needOf_104 rfl)) (os_l (so_iaload d_Mo_needOf_105))))) (os_n (os_n (os_l (so_callS (iv := mi_Mo_least) rfl mw_2514 mw_2515 mw_18 mw_2516 ⟨by decide +kernel, by decide +kernel, by decide +kernel⟩ (by decide) d_Mo_needOf_106)) (os_l (so_istore d_Mo_needOf_109 (by decide)))) (os_n (os_l (so_aload_n d_Mo_needOf_111 rfl)) (os_n (os_l (so_iload_n d_Mo_needOf_112 rfl)) (os_l (so_callV (iv := mi_Mo_held) rfl rfl rfl mw_2343 mw_2345 sl_141 mw_18 mw_2346 ⟨by decide +kernel, by decide +kernel, by decide +kernel⟩ (by decide) d_Mo_needOf_113)))))) (os_n (os_n (os_n (os_l (so_iconst d_Mo_needOf_116 (by decide))) (os_l (so_iceq d_Mo_needOf_117 (by decide)))) (os_n (os_l (so_aload_n d_Mo_needOf_120 rfl)) (os_n (os_l (so_iload_n d_Mo_needOf_121 rfl)) (os_l (so_callV (iv := mi_Mo_held) rfl rfl rfl mw_2343 mw_2345 sl_141 mw_18 mw_2346 ⟨by decide +kernel, by decide +kernel, by decide +kernel⟩ (by decide) d_Mo_needOf_122))))) (os_n (os_n (os_l (so_iload d_Mo_needOf_125)) (os_n (os_l (so_icne d_Mo_needOf_127 (by decide))) (os_l (so_iload d_Mo_needOf_130)))) (os_n (os_l (so_goto d_Mo_needOf_132 (by decide))) (os_n (os_l (so_iconst d_Mo_needOf_135 (by decide))) (os_l (so_ireturn rfl d_Mo_needOf_136)))))))))
abbrev t_Mo_measure_314 : List UInt8 := 177 :: []
abbrev t_Mo_measure_311 : List UInt8 := 167 :: 255 :: 35 :: t_Mo_measure_314
abbrev t_Mo_measure_308 : List UInt8 := 167 :: 255 :: 46 :: t_Mo_measure_311
abbrev t_Mo_measure_305 : List UInt8 := 132 :: 3 :: 1 :: t_Mo_measure_308
abbrev t_Mo_measure_302 : List UInt8 := 167 :: 255 :: 65 :: t_Mo_measure_305
abbrev t_Mo_measure_299 : List UInt8 := 132 :: 4 :: 1 :: t_Mo_measure_302
abbrev t_Mo_measure_298 : List UInt8 := 61 :: t_Mo_measure_299
abbrev t_Mo_measure_297 : List UInt8 := 3 :: t_Mo_measure_298
abbrev t_Mo_measure_294 : List UInt8 := 167 :: 0 :: 4 :: t_Mo_measure_297
abbrev t_Mo_measure_293 : List UInt8 := 4 :: t_Mo_measure_294
abbrev t_Mo_measure_290 : List UInt8 := 153 :: 0 :: 7 :: t_Mo_measure_293
abbrev t_Mo_measure_288 : List UInt8 := 21 :: 7 :: t_Mo_measure_290
abbrev t_Mo_measure_285 : List UInt8 := 154 :: 0 :: 8 :: t_Mo_measure_288
abbrev t_Mo_measure_284 : List UInt8 := 28 :: t_Mo_measure_285
abbrev t_Mo_measure_283 : List UInt8 := 79 :: t_Mo_measure_284
abbrev t_Mo_measure_282 : List UInt8 := 46 :: t_Mo_measure_283
abbrev t_Mo_measure_281 : List UInt8 := 29 :: t_Mo_measure_282
abbrev t_Mo_measure_278 : List UInt8 := 180 :: 0 :: 107 :: t_Mo_measure_281
abbrev t_Mo_measure_277 : List UInt8 := 42 :: t_Mo_measure_278
abbrev t_Mo_measure_274 : List UInt8 := 167 :: 0 :: 9 :: t_Mo_measure_277
abbrev t_Mo_measure_272 : List UInt8 := 21 :: 6 :: t_Mo_measure_274
abbrev t_Mo_measure_269 : List UInt8 := 153 :: 0 :: 8 :: t_Mo_measure_272
abbrev t_Mo_measure_267 : List UInt8 := 21 :: 7 :: t_Mo_measure_269
abbrev t_Mo_measure_266 : List UInt8 := 29 :: t_Mo_measure_267
abbrev t_Mo_measure_263 : List UInt8 := 180 :: 0 :: 107 :: t_Mo_measure_266
abbrev t_Mo_measure_262 : List UInt8 := 42 :: t_Mo_measure_263
abbrev t_Mo_measure_261 : List UInt8 := 79 :: t_Mo_measure_262
abbrev t_Mo_measure_260 : List UInt8 := 46 :: t_Mo_measure_261
abbrev t_Mo_measure_259 : List UInt8 := 29 :: t_Mo_measure_260
abbrev t_Mo_measure_256 : List UInt8 := 180 :: 0 :: 104 :: t_Mo_measure_259
abbrev t_Mo_measure_255 : List UInt8 := 42 :: t_Mo_measure_256
abbrev t_Mo_measure_252 : List UInt8 := 167 :: 0 :: 9 :: t_Mo_measure_255
abbrev t_Mo_measure_250 : List UInt8 := 21 :: 5 :: t_Mo_measure_252
abbrev t_Mo_measure_247 : List UInt8 := 153 :: 0 :: 8 :: t_Mo_measure_250
abbrev t_Mo_measure_245 : List UInt8 := 21 :: 7 :: t_Mo_measure_247
abbrev t_Mo_measure_244 : List UInt8 := 29 :: t_Mo_measure_245
abbrev t_Mo_measure_241 : List UInt8 := 180 :: 0 :: 104 :: t_Mo_measure_244
abbrev t_Mo_measure_240 : List UInt8 := 42 :: t_Mo_measure_241
abbrev t_Mo_measure_238 : List UInt8 := 54 :: 7 :: t_Mo_measure_240
abbrev t_Mo_measure_237 : List UInt8 := 3 :: t_Mo_measure_238
abbrev t_Mo_measure_234 : List UInt8 := 167 :: 0 :: 4 :: t_Mo_measure_237
abbrev t_Mo_measure_233 : List UInt8 := 4 :: t_Mo_measure_234
abbrev t_Mo_measure_230 : List UInt8 := 162 :: 0 :: 7 :: t_Mo_measure_233
abbrev t_Mo_measure_229 : List UInt8 := 46 :: t_Mo_measure_230
abbrev t_Mo_measure_228 : List UInt8 := 29 :: t_Mo_measure_229
abbrev t_Mo_measure_225 : List UInt8 := 180 :: 0 :: 107 :: t_Mo_measure_228
abbrev t_Mo_measure_224 : List UInt8 := 42 :: t_Mo_measure_225
abbrev t_Mo_measure_222 : List UInt8 := 21 :: 6 :: t_Mo_measure_224
abbrev t_Mo_measure_219 : List UInt8 := 160 :: 0 :: 18 :: t_Mo_measure_222
abbrev t_Mo_measure_218 : List UInt8 := 46 :: t_Mo_measure_219
abbrev t_Mo_measure_217 : List UInt8 := 29 :: t_Mo_measure_218
abbrev t_Mo_measure_214 : List UInt8 := 180 :: 0 :: 104 :: t_Mo_measure_217
abbrev t_Mo_measure_213 : List UInt8 := 42 :: t_Mo_measure_214
abbrev t_Mo_measure_211 : List UInt8 := 21 :: 5 :: t_Mo_measure_213
abbrev t_Mo_measure_208 : List UInt8 := 161 :: 0 :: 25 :: t_Mo_measure_211
abbrev t_Mo_measure_207 : List UInt8 := 46 :: t_Mo_measure_208
abbrev t_Mo_measure_206 : List UInt8 := 29 :: t_Mo_measure_207
abbrev t_Mo_measure_203 : List UInt8 := 180 :: 0 :: 104 :: t_Mo_measure_206
abbrev t_Mo_measure_202 : List UInt8 := 42 :: t_Mo_measure_203
abbrev t_Mo_measure_200 : List UInt8 := 21 :: 5 :: t_Mo_measure_202
abbrev t_Mo_measure_197 : List UInt8 := 159 :: 0 :: 36 :: t_Mo_measure_200
abbrev t_Mo_measure_196 : List UInt8 := 2 :: t_Mo_measure_197
abbrev t_Mo_measure_195 : List UInt8 := 46 :: t_Mo_measure_196
abbrev t_Mo_measure_194 : List UInt8 := 29 :: t_Mo_measure_195
abbrev t_Mo_measure_191 : List UInt8 := 180 :: 0 :: 104 :: t_Mo_measure_194
abbrev t_Mo_measure_190 : List UInt8 := 42 :: t_Mo_measure_191
abbrev t_Mo_measure_188 : List UInt8 := 54 :: 6 :: t_Mo_measure_190
abbrev t_Mo_measure_187 : List UInt8 := 96 :: t_Mo_measure_188
abbrev t_Mo_measure_186 : List UInt8 := 4 :: t_Mo_measure_187
abbrev t_Mo_measure_185 : List UInt8 := 46 :: t_Mo_measure_186
abbrev t_Mo_measure_183 : List UInt8 := 21 :: 4 :: t_Mo_measure_185
abbrev t_Mo_measure_180 : List UInt8 := 180 :: 0 :: 107 :: t_Mo_measure_183
abbrev t_Mo_measure_179 : List UInt8 := 42 :: t_Mo_measure_180
abbrev t_Mo_measure_177 : List UInt8 := 54 :: 5 :: t_Mo_measure_179
abbrev t_Mo_measure_176 : List UInt8 := 96 :: t_Mo_measure_177
abbrev t_Mo_measure_175 : List UInt8 := 46 :: t_Mo_measure_176
abbrev t_Mo_measure_174 : List UInt8 := 108 :: t_Mo_measure_175
abbrev t_Mo_measure_173 : List UInt8 := 5 :: t_Mo_measure_174
abbrev t_Mo_measure_172 : List UInt8 := 29 :: t_Mo_measure_173
abbrev t_Mo_measure_169 : List UInt8 := 180 :: 0 :: 46 :: t_Mo_measure_172
abbrev t_Mo_measure_168 : List UInt8 := 42 :: t_Mo_measure_169
abbrev t_Mo_measure_167 : List UInt8 := 46 :: t_Mo_measure_168
abbrev t_Mo_measure_165 : List UInt8 := 21 :: 4 :: t_Mo_measure_167
abbrev t_Mo_measure_162 : List UInt8 := 180 :: 0 :: 104 :: t_Mo_measure_165
abbrev t_Mo_measure_161 : List UInt8 := 42 :: t_Mo_measure_162
abbrev t_Mo_measure_158 : List UInt8 := 159 :: 0 :: 141 :: t_Mo_measure_161
abbrev t_Mo_measure_157 : List UInt8 := 2 :: t_Mo_measure_158
abbrev t_Mo_measure_154 : List UInt8 := 182 :: 1 :: 128 :: t_Mo_measure_157
abbrev t_Mo_measure_152 : List UInt8 := 21 :: 4 :: t_Mo_measure_154
abbrev t_Mo_measure_151 : List UInt8 := 130 :: t_Mo_measure_152
abbrev t_Mo_measure_150 : List UInt8 := 4 :: t_Mo_measure_151
abbrev t_Mo_measure_149 : List UInt8 := 29 :: t_Mo_measure_150
abbrev t_Mo_measure_148 : List UInt8 := 42 :: t_Mo_measure_149
abbrev t_Mo_measure_145 : List UInt8 := 159 :: 0 :: 154 :: t_Mo_measure_148
abbrev t_Mo_measure_144 : List UInt8 := 2 :: t_Mo_measure_145
abbrev t_Mo_measure_143 : List UInt8 := 46 :: t_Mo_measure_144
abbrev t_Mo_measure_141 : List UInt8 := 21 :: 4 :: t_Mo_measure_143
abbrev t_Mo_measure_138 : List UInt8 := 180 :: 0 :: 104 :: t_Mo_measure_141
abbrev t_Mo_measure_137 : List UInt8 := 42 :: t_Mo_measure_138
abbrev t_Mo_measure_134 : List UInt8 := 154 :: 0 :: 171 :: t_Mo_measure_137
abbrev t_Mo_measure_133 : List UInt8 := 148 :: t_Mo_measure_134
abbrev t_Mo_measure_132 : List UInt8 := 9 :: t_Mo_measure_133
abbrev t_Mo_measure_131 : List UInt8 := 127 :: t_Mo_measure_132
abbrev t_Mo_measure_130 : List UInt8 := 10 :: t_Mo_measure_131
abbrev t_Mo_measure_129 : List UInt8 := 123 :: t_Mo_measure_130
abbrev t_Mo_measure_128 : List UInt8 := 108 :: t_Mo_measure_129
abbrev t_Mo_measure_127 : List UInt8 := 5 :: t_Mo_measure_128
abbrev t_Mo_measure_126 : List UInt8 := 29 :: t_Mo_measure_127
abbrev t_Mo_measure_123 : List UInt8 := 180 :: 1 :: 117 :: t_Mo_measure_126
abbrev t_Mo_measure_122 : List UInt8 := 42 :: t_Mo_measure_123
abbrev t_Mo_measure_119 : List UInt8 := 162 :: 0 :: 186 :: t_Mo_measure_122
abbrev t_Mo_measure_118 : List UInt8 := 104 :: t_Mo_measure_119
abbrev t_Mo_measure_115 : List UInt8 := 180 :: 1 :: 25 :: t_Mo_measure_118
abbrev t_Mo_measure_114 : List UInt8 := 42 :: t_Mo_measure_115
abbrev t_Mo_measure_113 : List UInt8 := 5 :: t_Mo_measure_114
abbrev t_Mo_measure_111 : List UInt8 := 21 :: 4 :: t_Mo_measure_113
abbrev t_Mo_measure_109 : List UInt8 := 54 :: 4 :: t_Mo_measure_111
abbrev t_Mo_measure_108 : List UInt8 := 3 :: t_Mo_measure_109
abbrev t_Mo_measure_105 : List UInt8 := 162 :: 0 :: 206 :: t_Mo_measure_108
abbrev t_Mo_measure_104 : List UInt8 := 104 :: t_Mo_measure_105
abbrev t_Mo_measure_101 : List UInt8 := 180 :: 1 :: 25 :: t_Mo_measure_104
abbrev t_Mo_measure_100 : List UInt8 := 42 :: t_Mo_measure_101
abbrev t_Mo_measure_99 : List UInt8 := 5 :: t_Mo_measure_100
abbrev t_Mo_measure_98 : List UInt8 := 29 :: t_Mo_measure_99
abbrev t_Mo_measure_97 : List UInt8 := 62 :: t_Mo_measure_98
abbrev t_Mo_measure_96 : List UInt8 := 3 :: t_Mo_measure_97
abbrev t_Mo_measure_95 : List UInt8 := 61 :: t_Mo_measure_96
abbrev t_Mo_measure_94 : List UInt8 := 3 :: t_Mo_measure_95
abbrev t_Mo_measure_91 : List UInt8 := 153 :: 0 :: 223 :: t_Mo_measure_94
abbrev t_Mo_measure_90 : List UInt8 := 28 :: t_Mo_measure_91
abbrev t_Mo_measure_89 : List UInt8 := 61 :: t_Mo_measure_90
abbrev t_Mo_measure_88 : List UInt8 := 4 :: t_Mo_measure_89
abbrev t_Mo_measure_85 : List UInt8 := 167 :: 255 :: 173 :: t_Mo_measure_88
abbrev t_Mo_measure_82 : List UInt8 := 132 :: 2 :: 1 :: t_Mo_measure_85
abbrev t_Mo_measure_81 : List UInt8 := 79 :: t_Mo_measure_82
abbrev t_Mo_measure_80 : List UInt8 := 3 :: t_Mo_measure_81
abbrev t_Mo_measure_77 : List UInt8 := 167 :: 0 :: 4 :: t_Mo_measure_80
abbrev t_Mo_measure_76 : List UInt8 := 4 :: t_Mo_measure_77
abbrev t_Mo_measure_73 : List UInt8 := 153 :: 0 :: 7 :: t_Mo_measure_76
abbrev t_Mo_measure_72 : List UInt8 := 29 :: t_Mo_measure_73
abbrev t_Mo_measure_71 : List UInt8 := 28 :: t_Mo_measure_72
abbrev t_Mo_measure_68 : List UInt8 := 180 :: 0 :: 107 :: t_Mo_measure_71
abbrev t_Mo_measure_67 : List UInt8 := 42 :: t_Mo_measure_68
abbrev t_Mo_measure_66 : List UInt8 := 79 :: t_Mo_measure_67
abbrev t_Mo_measure_65 : List UInt8 := 2 :: t_Mo_measure_66
abbrev t_Mo_measure_62 : List UInt8 := 167 :: 0 :: 4 :: t_Mo_measure_65
abbrev t_Mo_measure_61 : List UInt8 := 46 :: t_Mo_measure_62
abbrev t_Mo_measure_60 : List UInt8 := 108 :: t_Mo_measure_61
abbrev t_Mo_measure_59 : List UInt8 := 5 :: t_Mo_measure_60
abbrev t_Mo_measure_58 : List UInt8 := 28 :: t_Mo_measure_59
abbrev t_Mo_measure_55 : List UInt8 := 180 :: 0 :: 46 :: t_Mo_measure_58
abbrev t_Mo_measure_54 : List UInt8 := 42 :: t_Mo_measure_55
abbrev t_Mo_measure_51 : List UInt8 := 153 :: 0 :: 14 :: t_Mo_measure_54
abbrev t_Mo_measure_50 : List UInt8 := 29 :: t_Mo_measure_51
abbrev t_Mo_measure_49 : List UInt8 := 28 :: t_Mo_measure_50
abbrev t_Mo_measure_46 : List UInt8 := 180 :: 0 :: 104 :: t_Mo_measure_49
abbrev t_Mo_measure_45 : List UInt8 := 42 :: t_Mo_measure_46
abbrev t_Mo_measure_44 : List UInt8 := 62 :: t_Mo_measure_45
abbrev t_Mo_measure_43 : List UInt8 := 3 :: t_Mo_measure_44
abbrev t_Mo_measure_40 : List UInt8 := 167 :: 0 :: 4 :: t_Mo_measure_43
abbrev t_Mo_measure_39 : List UInt8 := 4 :: t_Mo_measure_40
abbrev t_Mo_measure_36 : List UInt8 := 154 :: 0 :: 7 :: t_Mo_measure_39
abbrev t_Mo_measure_35 : List UInt8 := 148 :: t_Mo_measure_36
abbrev t_Mo_measure_34 : List UInt8 := 9 :: t_Mo_measure_35
abbrev t_Mo_measure_33 : List UInt8 := 127 :: t_Mo_measure_34
abbrev t_Mo_measure_32 : List UInt8 := 10 :: t_Mo_measure_33
abbrev t_Mo_measure_31 : List UInt8 := 123 :: t_Mo_measure_32
abbrev t_Mo_measure_30 : List UInt8 := 108 :: t_Mo_measure_31
abbrev t_Mo_measure_29 : List UInt8 := 5 :: t_Mo_measure_30
abbrev t_Mo_measure_28 : List UInt8 := 28 :: t_Mo_measure_29
abbrev t_Mo_measure_25 : List UInt8 := 180 :: 1 :: 117 :: t_Mo_measure_28
abbrev t_Mo_measure_24 : List UInt8 := 42 :: t_Mo_measure_25
abbrev t_Mo_measure_21 : List UInt8 := 160 :: 0 :: 22 :: t_Mo_measure_24
abbrev t_Mo_measure_20 : List UInt8 := 27 :: t_Mo_measure_21
abbrev t_Mo_measure_19 : List UInt8 := 46 :: t_Mo_measure_20
abbrev t_Mo_measure_18 : List UInt8 := 130 :: t_Mo_measure_19
abbrev t_Mo_measure_17 : List UInt8 := 4 :: t_Mo_measure_18
abbrev t_Mo_measure_16 : List UInt8 := 28 :: t_Mo_measure_17
abbrev t_Mo_measure_13 : List UInt8 := 180 :: 0 :: 49 :: t_Mo_measure_16
abbrev t_Mo_measure_12 : List UInt8 := 42 :: t_Mo_measure_13
abbrev t_Mo_measure_9 : List UInt8 := 162 :: 0 :: 79 :: t_Mo_measure_12
abbrev t_Mo_measure_8 : List UInt8 := 104 :: t_Mo_measure_9
abbrev t_Mo_measure_5 : List UInt8 := 180 :: 1 :: 25 :: t_Mo_measure_8
abbrev t_Mo_measure_4 : List UInt8 := 42 :: t_Mo_measure_5
abbrev t_Mo_measure_3 : List UInt8 := 5 :: t_Mo_measure_4
abbrev t_Mo_measure_2 : List UInt8 := 28 :: t_Mo_measure_3
abbrev t_Mo_measure_1 : List UInt8 := 61 :: t_Mo_measure_2
abbrev t_Mo_measure_0 : List UInt8 := 3 :: t_Mo_measure_1
theorem a_Mo_measure_0 : dk_at b_Mo_measure 0 t_Mo_measure_0 := dk_start (by decide +kernel)
theorem a_Mo_measure_1 : dk_at b_Mo_measure 1 t_Mo_measure_1 := dk_go 1 a_Mo_measure_0 rfl
theorem a_Mo_measure_2 : dk_at b_Mo_measure 2 t_Mo_measure_2 := dk_go 1 a_Mo_measure_1 rfl
theorem a_Mo_measure_3 : dk_at b_Mo_measure 3 t_Mo_measure_3 := dk_go 1 a_Mo_measure_2 rfl
theorem a_Mo_measure_4 : dk_at b_Mo_measure 4 t_Mo_measure_4 := dk_go 1 a_Mo_measure_3 rfl
theorem a_Mo_measure_5 : dk_at b_Mo_measure 5 t_Mo_measure_5 := dk_go 1 a_Mo_measure_4 rfl
theorem a_Mo_measure_8 : dk_at b_Mo_measure 8 t_Mo_measure_8 := dk_go 3 a_Mo_measure_5 rfl
theorem a_Mo_measure_9 : dk_at b_Mo_measure 9 t_Mo_measure_9 := dk_go 1 a_Mo_measure_8 rfl
theorem a_Mo_measure_12 : dk_at b_Mo_measure 12 t_Mo_measure_12 := dk_go 3 a_Mo_measure_9 rfl
theorem a_Mo_measure_13 : dk_at b_Mo_measure 13 t_Mo_measure_13 := dk_go 1 a_Mo_measure_12 rfl
theorem a_Mo_measure_16 : dk_at b_Mo_measure 16 t_Mo_measure_16 := dk_go 3 a_Mo_measure_13 rfl
theorem a_Mo_measure_17 : dk_at b_Mo_measure 17 t_Mo_measure_17 := dk_go 1 a_Mo_measure_16 rfl
theorem a_Mo_measure_18 : dk_at b_Mo_measure 18 t_Mo_measure_18 := dk_go 1 a_Mo_measure_17 rfl
theorem a_Mo_measure_19 : dk_at b_Mo_measure 19 t_Mo_measure_19 := dk_go 1 a_Mo_measure_18 rfl
theorem a_Mo_measure_20 : dk_at b_Mo_measure 20 t_Mo_measure_20 := dk_go 1 a_Mo_measure_19 rfl
theorem a_Mo_measure_21 : dk_at b_Mo_measure 21 t_Mo_measure_21 := dk_go 1 a_Mo_measure_20 rfl
theorem a_Mo_measure_24 : dk_at b_Mo_measure 24 t_Mo_measure_24 := dk_go 3 a_Mo_measure_21 rfl
theorem a_Mo_measure_25 : dk_at b_Mo_measure 25 t_Mo_measure_25 := dk_go 1 a_Mo_measure_24 rfl
theorem a_Mo_measure_28 : dk_at b_Mo_measure 28 t_Mo_measure_28 := dk_go 3 a_Mo_measure_25 rfl
theorem a_Mo_measure_29 : dk_at b_Mo_measure 29 t_Mo_measure_29 := dk_go 1 a_Mo_measure_28 rfl
theorem a_Mo_measure_30 : dk_at b_Mo_measure 30 t_Mo_measure_30 := dk_go 1 a_Mo_measure_29 rfl
theorem a_Mo_measure_31 : dk_at b_Mo_measure 31 t_Mo_measure_31 := dk_go 1 a_Mo_measure_30 rfl
theorem a_Mo_measure_32 : dk_at b_Mo_measure 32 t_Mo_measure_32 := dk_go 1 a_Mo_measure_31 rfl
theorem a_Mo_measure_33 : dk_at b_Mo_measure 33 t_Mo_measure_33 := dk_go 1 a_Mo_measure_32 rfl
theorem a_Mo_measure_34 : dk_at b_Mo_measure 34 t_Mo_measure_34 := dk_go 1 a_Mo_measure_33 rfl
theorem a_Mo_measure_35 : dk_at b_Mo_measure 35 t_Mo_measure_35 := dk_go 1 a_Mo_measure_34 rfl
theorem a_Mo_measure_36 : dk_at b_Mo_measure 36 t_Mo_measure_36 := dk_go 1 a_Mo_measure_35 rfl
theorem a_Mo_measure_39 : dk_at b_Mo_measure 39 t_Mo_measure_39 := dk_go 3 a_Mo_measure_36 rfl
theorem a_Mo_measure_40 : dk_at b_Mo_measure 40 t_Mo_measure_40 := dk_go 1 a_Mo_measure_39 rfl
theorem a_Mo_measure_43 : dk_at b_Mo_measure 43 t_Mo_measure_43 := dk_go 3 a_Mo_measure_40 rfl
theorem a_Mo_measure_44 : dk_at b_Mo_measure 44 t_Mo_measure_44 := dk_go 1 a_Mo_measure_43 rfl
theorem a_Mo_measure_45 : dk_at b_Mo_measure 45 t_Mo_measure_45 := dk_go 1 a_Mo_measure_44 rfl
theorem a_Mo_measure_46 : dk_at b_Mo_measure 46 t_Mo_measure_46 := dk_go 1 a_Mo_measure_45 rfl
theorem a_Mo_measure_49 : dk_at b_Mo_measure 49 t_Mo_measure_49 := dk_go 3 a_Mo_measure_46 rfl
theorem a_Mo_measure_50 : dk_at b_Mo_measure 50 t_Mo_measure_50 := dk_go 1 a_Mo_measure_49 rfl
theorem a_Mo_measure_51 : dk_at b_Mo_measure 51 t_Mo_measure_51 := dk_go 1 a_Mo_measure_50 rfl
theorem a_Mo_measure_54 : dk_at b_Mo_measure 54 t_Mo_measure_54 := dk_go 3 a_Mo_measure_51 rfl
theorem a_Mo_measure_55 : dk_at b_Mo_measure 55 t_Mo_measure_55 := dk_go 1 a_Mo_measure_54 rfl
theorem a_Mo_measure_58 : dk_at b_Mo_measure 58 t_Mo_measure_58 := dk_go 3 a_Mo_measure_55 rfl
theorem a_Mo_measure_59 : dk_at b_Mo_measure 59 t_Mo_measure_59 := dk_go 1 a_Mo_measure_58 rfl
theorem a_Mo_measure_60 : dk_at b_Mo_measure 60 t_Mo_measure_60 := dk_go 1 a_Mo_measure_59 rfl
theorem a_Mo_measure_61 : dk_at b_Mo_measure 61 t_Mo_measure_61 := dk_go 1 a_Mo_measure_60 rfl
theorem a_Mo_measure_62 : dk_at b_Mo_measure 62 t_Mo_measure_62 := dk_go 1 a_Mo_measure_61 rfl
theorem a_Mo_measure_65 : dk_at b_Mo_measure 65 t_Mo_measure_65 := dk_go 3 a_Mo_measure_62 rfl
theorem a_Mo_measure_66 : dk_at b_Mo_measure 66 t_Mo_measure_66 := dk_go 1 a_Mo_measure_65 rfl
theorem a_Mo_measure_67 : dk_at b_Mo_measure 67 t_Mo_measure_67 := dk_go 1 a_Mo_measure_66 rfl
theorem a_Mo_measure_68 : dk_at b_Mo_measure 68 t_Mo_measure_68 := dk_go 1 a_Mo_measure_67 rfl
theorem a_Mo_measure_71 : dk_at b_Mo_measure 71 t_Mo_measure_71 := dk_go 3 a_Mo_measure_68 rfl
theorem a_Mo_measure_72 : dk_at b_Mo_measure 72 t_Mo_measure_72 := dk_go 1 a_Mo_measure_71 rfl
theorem a_Mo_measure_73 : dk_at b_Mo_measure 73 t_Mo_measure_73 := dk_go 1 a_Mo_measure_72 rfl
theorem a_Mo_measure_76 : dk_at b_Mo_measure 76 t_Mo_measure_76 := dk_go 3 a_Mo_measure_73 rfl
theorem a_Mo_measure_77 : dk_at b_Mo_measure 77 t_Mo_measure_77 := dk_go 1 a_Mo_measure_76 rfl
theorem a_Mo_measure_80 : dk_at b_Mo_measure 80 t_Mo_measure_80 := dk_go 3 a_Mo_measure_77 rfl
theorem a_Mo_measure_81 : dk_at b_Mo_measure 81 t_Mo_measure_81 := dk_go 1 a_Mo_measure_80 rfl
theorem a_Mo_measure_82 : dk_at b_Mo_measure 82 t_Mo_measure_82 := dk_go 1 a_Mo_measure_81 rfl
theorem a_Mo_measure_85 : dk_at b_Mo_measure 85 t_Mo_measure_85 := dk_go 3 a_Mo_measure_82 rfl
theorem a_Mo_measure_88 : dk_at b_Mo_measure 88 t_Mo_measure_88 := dk_go 3 a_Mo_measure_85 rfl
theorem a_Mo_measure_89 : dk_at b_Mo_measure 89 t_Mo_measure_89 := dk_go 1 a_Mo_measure_88 rfl
theorem a_Mo_measure_90 : dk_at b_Mo_measure 90 t_Mo_measure_90 := dk_go 1 a_Mo_measure_89 rfl
theorem a_Mo_measure_91 : dk_at b_Mo_measure 91 t_Mo_measure_91 := dk_go 1 a_Mo_measure_90 rfl
theorem a_Mo_measure_94 : dk_at b_Mo_measure 94 t_Mo_measure_94 := dk_go 3 a_Mo_measure_91 rfl
theorem a_Mo_measure_95 : dk_at b_Mo_measure 95 t_Mo_measure_95 := dk_go 1 a_Mo_measure_94 rfl
theorem a_Mo_measure_96 : dk_at b_Mo_measure 96 t_Mo_measure_96 := dk_go 1 a_Mo_measure_95 rfl
theorem a_Mo_measure_97 : dk_at b_Mo_measure 97 t_Mo_measure_97 := dk_go 1 a_Mo_measure_96 rfl
theorem a_Mo_measure_98 : dk_at b_Mo_measure 98 t_Mo_measure_98 := dk_go 1 a_Mo_measure_97 rfl
theorem a_Mo_measure_99 : dk_at b_Mo_measure 99 t_Mo_measure_99 := dk_go 1 a_Mo_measure_98 rfl
theorem a_Mo_measure_100 : dk_at b_Mo_measure 100 t_Mo_measure_100 := dk_go 1 a_Mo_measure_99 rfl
theorem a_Mo_measure_101 : dk_at b_Mo_measure 101 t_Mo_measure_101 := dk_go 1 a_Mo_measure_100 rfl
theorem a_Mo_measure_104 : dk_at b_Mo_measure 104 t_Mo_measure_104 := dk_go 3 a_Mo_measure_101 rfl
theorem a_Mo_measure_105 : dk_at b_Mo_measure 105 t_Mo_measure_105 := dk_go 1 a_Mo_measure_104 rfl
theorem a_Mo_measure_108 : dk_at b_Mo_measure 108 t_Mo_measure_108 := dk_go 3 a_Mo_measure_105 rfl
theorem a_Mo_measure_109 : dk_at b_Mo_measure 109 t_Mo_measure_109 := dk_go 1 a_Mo_measure_108 rfl
theorem a_Mo_measure_111 : dk_at b_Mo_measure 111 t_Mo_measure_111 := dk_go 2 a_Mo_measure_109 rfl
theorem a_Mo_measure_113 : dk_at b_Mo_measure 113 t_Mo_measure_113 := dk_go 2 a_Mo_measure_111 rfl
theorem a_Mo_measure_114 : dk_at b_Mo_measure 114 t_Mo_measure_114 := dk_go 1 a_Mo_measure_113 rfl
theorem a_Mo_measure_115 : dk_at b_Mo_measure 115 t_Mo_measure_115 := dk_go 1 a_Mo_measure_114 rfl
theorem a_Mo_measure_118 : dk_at b_Mo_measure 118 t_Mo_measure_118 := dk_go 3 a_Mo_measure_115 rfl
theorem a_Mo_measure_119 : dk_at b_Mo_measure 119 t_Mo_measure_119 := dk_go 1 a_Mo_measure_118 rfl
theorem a_Mo_measure_122 : dk_at b_Mo_measure 122 t_Mo_measure_122 := dk_go 3 a_Mo_measure_119 rfl
theorem a_Mo_measure_123 : dk_at b_Mo_measure 123 t_Mo_measure_123 := dk_go 1 a_Mo_measure_122 rfl
theorem a_Mo_measure_126 : dk_at b_Mo_measure 126 t_Mo_measure_126 := dk_go 3 a_Mo_measure_123 rfl
theorem a_Mo_measure_127 : dk_at b_Mo_measure 127 t_Mo_measure_127 := dk_go 1 a_Mo_measure_126 rfl
theorem a_Mo_measure_128 : dk_at b_Mo_measure 128 t_Mo_measure_128 := dk_go 1 a_Mo_measure_127 rfl
theorem a_Mo_measure_129 : dk_at b_Mo_measure 129 t_Mo_measure_129 := dk_go 1 a_Mo_measure_128 rfl
theorem a_Mo_measure_130 : dk_at b_Mo_measure 130 t_Mo_measure_130 := dk_go 1 a_Mo_measure_129 rfl
theorem a_Mo_measure_131 : dk_at b_Mo_measure 131 t_Mo_measure_131 := dk_go 1 a_Mo_measure_130 rfl
theorem a_Mo_measure_132 : dk_at b_Mo_measure 132 t_Mo_measure_132 := dk_go 1 a_Mo_measure_131 rfl
theorem a_Mo_measure_133 : dk_at b_Mo_measure 133 t_Mo_measure_133 := dk_go 1 a_Mo_measure_132 rfl
theorem a_Mo_measure_134 : dk_at b_Mo_measure 134 t_Mo_measure_134 := dk_go 1 a_Mo_measure_133 rfl
theorem a_Mo_measure_137 : dk_at b_Mo_measure 137 t_Mo_measure_137 := dk_go 3 a_Mo_measure_134 rfl
theorem a_Mo_measure_138 : dk_at b_Mo_measure 138 t_Mo_measure_138 := dk_go 1 a_Mo_measure_137 rfl
theorem a_Mo_measure_141 : dk_at b_Mo_measure 141 t_Mo_measure_141 := dk_go 3 a_Mo_measure_138 rfl
theorem a_Mo_measure_143 : dk_at b_Mo_measure 143 t_Mo_measure_143 := dk_go 2 a_Mo_measure_141 rfl
theorem a_Mo_measure_144 : dk_at b_Mo_measure 144 t_Mo_measure_144 := dk_go 1 a_Mo_measure_143 rfl
theorem a_Mo_measure_145 : dk_at b_Mo_measure 145 t_Mo_measure_145 := dk_go 1 a_Mo_measure_144 rfl
theorem a_Mo_measure_148 : dk_at b_Mo_measure 148 t_Mo_measure_148 := dk_go 3 a_Mo_measure_145 rfl
theorem a_Mo_measure_149 : dk_at b_Mo_measure 149 t_Mo_measure_149 := dk_go 1 a_Mo_measure_148 rfl
theorem a_Mo_measure_150 : dk_at b_Mo_measure 150 t_Mo_measure_150 := dk_go 1 a_Mo_measure_149 rfl
theorem a_Mo_measure_151 : dk_at b_Mo_measure 151 t_Mo_measure_151 := dk_go 1 a_Mo_measure_150 rfl
theorem a_Mo_measure_152 : dk_at b_Mo_measure 152 t_Mo_measure_152 := dk_go 1 a_Mo_measure_151 rfl
theorem a_Mo_measure_154 : dk_at b_Mo_measure 154 t_Mo_measure_154 := dk_go 2 a_Mo_measure_152 rfl
theorem a_Mo_measure_157 : dk_at b_Mo_measure 157 t_Mo_measure_157 := dk_go 3 a_Mo_measure_154 rfl
theorem a_Mo_measure_158 : dk_at b_Mo_measure 158 t_Mo_measure_158 := dk_go 1 a_Mo_measure_157 rfl
theorem a_Mo_measure_161 : dk_at b_Mo_measure 161 t_Mo_measure_161 := dk_go 3 a_Mo_measure_158 rfl
theorem a_Mo_measure_162 : dk_at b_Mo_measure 162 t_Mo_measure_162 := dk_go 1 a_Mo_measure_161 rfl
theorem a_Mo_measure_165 : dk_at b_Mo_measure 165 t_Mo_measure_165 := dk_go 3 a_Mo_measure_162 rfl
theorem a_Mo_measure_167 : dk_at b_Mo_measure 167 t_Mo_measure_167 := dk_go 2 a_Mo_measure_165 rfl
theorem a_Mo_measure_168 : dk_at b_Mo_measure 168 t_Mo_measure_168 := dk_go 1 a_Mo_measure_167 rfl
theorem a_Mo_measure_169 : dk_at b_Mo_measure 169 t_Mo_measure_169 := dk_go 1 a_Mo_measure_168 rfl
theorem a_Mo_measure_172 : dk_at b_Mo_measure 172 t_Mo_measure_172 := dk_go 3 a_Mo_measure_169 rfl
theorem a_Mo_measure_173 : dk_at b_Mo_measure 173 t_Mo_measure_173 := dk_go 1 a_Mo_measure_172 rfl
theorem a_Mo_measure_174 : dk_at b_Mo_measure 174 t_Mo_measure_174 := dk_go 1 a_Mo_measure_173 rfl
theorem a_Mo_measure_175 : dk_at b_Mo_measure 175 t_Mo_measure_175 := dk_go 1 a_Mo_measure_174 rfl
theorem a_Mo_measure_176 : dk_at b_Mo_measure 176 t_Mo_measure_176 := dk_go 1 a_Mo_measure_175 rfl
theorem a_Mo_measure_177 : dk_at b_Mo_measure 177 t_Mo_measure_177 := dk_go 1 a_Mo_measure_176 rfl
theorem a_Mo_measure_179 : dk_at b_Mo_measure 179 t_Mo_measure_179 := dk_go 2 a_Mo_measure_177 rfl
theorem a_Mo_measure_180 : dk_at b_Mo_measure 180 t_Mo_measure_180 := dk_go 1 a_Mo_measure_179 rfl
theorem a_Mo_measure_183 : dk_at b_Mo_measure 183 t_Mo_measure_183 := dk_go 3 a_Mo_measure_180 rfl
theorem a_Mo_measure_185 : dk_at b_Mo_measure 185 t_Mo_measure_185 := dk_go 2 a_Mo_measure_183 rfl
theorem a_Mo_measure_186 : dk_at b_Mo_measure 186 t_Mo_measure_186 := dk_go 1 a_Mo_measure_185 rfl
theorem a_Mo_measure_187 : dk_at b_Mo_measure 187 t_Mo_measure_187 := dk_go 1 a_Mo_measure_186 rfl
theorem a_Mo_measure_188 : dk_at b_Mo_measure 188 t_Mo_measure_188 := dk_go 1 a_Mo_measure_187 rfl
theorem a_Mo_measure_190 : dk_at b_Mo_measure 190 t_Mo_measure_190 := dk_go 2 a_Mo_measure_188 rfl
theorem a_Mo_measure_191 : dk_at b_Mo_measure 191 t_Mo_measure_191 := dk_go 1 a_Mo_measure_190 rfl
theorem a_Mo_measure_194 : dk_at b_Mo_measure 194 t_Mo_measure_194 := dk_go 3 a_Mo_measure_191 rfl
theorem a_Mo_measure_195 : dk_at b_Mo_measure 195 t_Mo_measure_195 := dk_go 1 a_Mo_measure_194 rfl
theorem a_Mo_measure_196 : dk_at b_Mo_measure 196 t_Mo_measure_196 := dk_go 1 a_Mo_measure_195 rfl
theorem a_Mo_measure_197 : dk_at b_Mo_measure 197 t_Mo_measure_197 := dk_go 1 a_Mo_measure_196 rfl
theorem a_Mo_measure_200 : dk_at b_Mo_measure 200 t_Mo_measure_200 := dk_go 3 a_Mo_measure_197 rfl
theorem a_Mo_measure_202 : dk_at b_Mo_measure 202 t_Mo_measure_202 := dk_go 2 a_Mo_measure_200 rfl
theorem a_Mo_measure_203 : dk_at b_Mo_measure 203 t_Mo_measure_203 := dk_go 1 a_Mo_measure_202 rfl
theorem a_Mo_measure_206 : dk_at b_Mo_measure 206 t_Mo_measure_206 := dk_go 3 a_Mo_measure_203 rfl
theorem a_Mo_measure_207 : dk_at b_Mo_measure 207 t_Mo_measure_207 := dk_go 1 a_Mo_measure_206 rfl
theorem a_Mo_measure_208 : dk_at b_Mo_measure 208 t_Mo_measure_208 := dk_go 1 a_Mo_measure_207 rfl
theorem a_Mo_measure_211 : dk_at b_Mo_measure 211 t_Mo_measure_211 := dk_go 3 a_Mo_measure_208 rfl
theorem a_Mo_measure_213 : dk_at b_Mo_measure 213 t_Mo_measure_213 := dk_go 2 a_Mo_measure_211 rfl
theorem a_Mo_measure_214 : dk_at b_Mo_measure 214 t_Mo_measure_214 := dk_go 1 a_Mo_measure_213 rfl
theorem a_Mo_measure_217 : dk_at b_Mo_measure 217 t_Mo_measure_217 := dk_go 3 a_Mo_measure_214 rfl
theorem a_Mo_measure_218 : dk_at b_Mo_measure 218 t_Mo_measure_218 := dk_go 1 a_Mo_measure_217 rfl
theorem a_Mo_measure_219 : dk_at b_Mo_measure 219 t_Mo_measure_219 := dk_go 1 a_Mo_measure_218 rfl
theorem a_Mo_measure_222 : dk_at b_Mo_measure 222 t_Mo_measure_222 := dk_go 3 a_Mo_measure_219 rfl
theorem a_Mo_measure_224 : dk_at b_Mo_measure 224 t_Mo_measure_224 := dk_go 2 a_Mo_measure_222 rfl
theorem a_Mo_measure_225 : dk_at b_Mo_measure 225 t_Mo_measure_225 := dk_go 1 a_Mo_measure_224 rfl
theorem a_Mo_measure_228 : dk_at b_Mo_measure 228 t_Mo_measure_228 := dk_go 3 a_Mo_measure_225 rfl
theorem a_Mo_measure_229 : dk_at b_Mo_measure 229 t_Mo_measure_229 := dk_go 1 a_Mo_measure_228 rfl
theorem a_Mo_measure_230 : dk_at b_Mo_measure 230 t_Mo_measure_230 := dk_go 1 a_Mo_measure_229 rfl
theorem a_Mo_measure_233 : dk_at b_Mo_measure 233 t_Mo_measure_233 := dk_go 3 a_Mo_measure_230 rfl
theorem a_Mo_measure_234 : dk_at b_Mo_measure 234 t_Mo_measure_234 := dk_go 1 a_Mo_measure_233 rfl
theorem a_Mo_measure_237 : dk_at b_Mo_measure 237 t_Mo_measure_237 := dk_go 3 a_Mo_measure_234 rfl
theorem a_Mo_measure_238 : dk_at b_Mo_measure 238 t_Mo_measure_238 := dk_go 1 a_Mo_measure_237 rfl
theorem a_Mo_measure_240 : dk_at b_Mo_measure 240 t_Mo_measure_240 := dk_go 2 a_Mo_measure_238 rfl
theorem a_Mo_measure_241 : dk_at b_Mo_measure 241 t_Mo_measure_241 := dk_go 1 a_Mo_measure_240 rfl
theorem a_Mo_measure_244 : dk_at b_Mo_measure 244 t_Mo_measure_244 := dk_go 3 a_Mo_measure_241 rfl
theorem a_Mo_measure_245 : dk_at b_Mo_measure 245 t_Mo_measure_245 := dk_go 1 a_Mo_measure_244 rfl
theorem a_Mo_measure_247 : dk_at b_Mo_measure 247 t_Mo_measure_247 := dk_go 2 a_Mo_measure_245 rfl
theorem a_Mo_measure_250 : dk_at b_Mo_measure 250 t_Mo_measure_250 := dk_go 3 a_Mo_measure_247 rfl
theorem a_Mo_measure_252 : dk_at b_Mo_measure 252 t_Mo_measure_252 := dk_go 2 a_Mo_measure_250 rfl
theorem a_Mo_measure_255 : dk_at b_Mo_measure 255 t_Mo_measure_255 := dk_go 3 a_Mo_measure_252 rfl
theorem a_Mo_measure_256 : dk_at b_Mo_measure 256 t_Mo_measure_256 := dk_go 1 a_Mo_measure_255 rfl
theorem a_Mo_measure_259 : dk_at b_Mo_measure 259 t_Mo_measure_259 := dk_go 3 a_Mo_measure_256 rfl
theorem a_Mo_measure_260 : dk_at b_Mo_measure 260 t_Mo_measure_260 := dk_go 1 a_Mo_measure_259 rfl
theorem a_Mo_measure_261 : dk_at b_Mo_measure 261 t_Mo_measure_261 := dk_go 1 a_Mo_measure_260 rfl
theorem a_Mo_measure_262 : dk_at b_Mo_measure 262 t_Mo_measure_262 := dk_go 1 a_Mo_measure_261 rfl
theorem a_Mo_measure_263 : dk_at b_Mo_measure 263 t_Mo_measure_263 := dk_go 1 a_Mo_measure_262 rfl
theorem a_Mo_measure_266 : dk_at b_Mo_measure 266 t_Mo_measure_266 := dk_go 3 a_Mo_measure_263 rfl
theorem a_Mo_measure_267 : dk_at b_Mo_measure 267 t_Mo_measure_267 := dk_go 1 a_Mo_measure_266 rfl
theorem a_Mo_measure_269 : dk_at b_Mo_measure 269 t_Mo_measure_269 := dk_go 2 a_Mo_measure_267 rfl
theorem a_Mo_measure_272 : dk_at b_Mo_measure 272 t_Mo_measure_272 := dk_go 3 a_Mo_measure_269 rfl
theorem a_Mo_measure_274 : dk_at b_Mo_measure 274 t_Mo_measure_274 := dk_go 2 a_Mo_measure_272 rfl
theorem a_Mo_measure_277 : dk_at b_Mo_measure 277 t_Mo_measure_277 := dk_go 3 a_Mo_measure_274 rfl
theorem a_Mo_measure_278 : dk_at b_Mo_measure 278 t_Mo_measure_278 := dk_go 1 a_Mo_measure_277 rfl
theorem a_Mo_measure_281 : dk_at b_Mo_measure 281 t_Mo_measure_281 := dk_go 3 a_Mo_measure_278 rfl
theorem a_Mo_measure_282 : dk_at b_Mo_measure 282 t_Mo_measure_282 := dk_go 1 a_Mo_measure_281 rfl
theorem a_Mo_measure_283 : dk_at b_Mo_measure 283 t_Mo_measure_283 := dk_go 1 a_Mo_measure_282 rfl
theorem a_Mo_measure_284 : dk_at b_Mo_measure 284 t_Mo_measure_284 := dk_go 1 a_Mo_measure_283 rfl
theorem a_Mo_measure_285 : dk_at b_Mo_measure 285 t_Mo_measure_285 := dk_go 1 a_Mo_measure_284 rfl
theorem a_Mo_measure_288 : dk_at b_Mo_measure 288 t_Mo_measure_288 := dk_go 3 a_Mo_measure_285 rfl
theorem a_Mo_measure_290 : dk_at b_Mo_measure 290 t_Mo_measure_290 := dk_go 2 a_Mo_measure_288 rfl
theorem a_Mo_measure_293 : dk_at b_Mo_measure 293 t_Mo_measure_293 := dk_go 3 a_Mo_measure_290 rfl
theorem a_Mo_measure_294 : dk_at b_Mo_measure 294 t_Mo_measure_294 := dk_go 1 a_Mo_measure_293 rfl
theorem a_Mo_measure_297 : dk_at b_Mo_measure 297 t_Mo_measure_297 := dk_go 3 a_Mo_measure_294 rfl
theorem a_Mo_measure_298 : dk_at b_Mo_measure 298 t_Mo_measure_298 := dk_go 1 a_Mo_measure_297 rfl
theorem a_Mo_measure_299 : dk_at b_Mo_measure 299 t_Mo_measure_299 := dk_go 1 a_Mo_measure_298 rfl
theorem a_Mo_measure_302 : dk_at b_Mo_measure 302 t_Mo_measure_302 := dk_go 3 a_Mo_measure_299 rfl
theorem a_Mo_measure_305 : dk_at b_Mo_measure 305 t_Mo_measure_305 := dk_go 3 a_Mo_measure_302 rfl
theorem a_Mo_measure_308 : dk_at b_Mo_measure 308 t_Mo_measure_308 := dk_go 3 a_Mo_measure_305 rfl
theorem a_Mo_measure_311 : dk_at b_Mo_measure 311 t_Mo_measure_311 := dk_go 3 a_Mo_measure_308 rfl
theorem a_Mo_measure_314 : dk_at b_Mo_measure 314 t_Mo_measure_314 := dk_go 3 a_Mo_measure_311 rfl
theorem d_Mo_measure_0 : decode b_Mo_measure 0 = .ok (.iconst 0, 1) := dk_0 a_Mo_measure_0 (dko_3 _)
theorem d_Mo_measure_1 : decode b_Mo_measure 1 = .ok (.istore_n 2, 1) := dk_0 a_Mo_measure_1 (dko_61 _)
theorem d_Mo_measure_2 : decode b_Mo_measure 2 = .ok (.iload_n 2, 1) := dk_0 a_Mo_measure_2 (dko_28 _)
theorem d_Mo_measure_3 : decode b_Mo_measure 3 = .ok (.iconst 2, 1) := dk_0 a_Mo_measure_3 (dko_5 _)
theorem d_Mo_measure_4 : decode b_Mo_measure 4 = .ok (.aload_n 0, 1) := dk_0 a_Mo_measure_4 (dko_42 _)
theorem d_Mo_measure_5 : decode b_Mo_measure 5 = .ok (.getfield 281, 3) := dk_U2 a_Mo_measure_5 (dko_180 _) rfl
theorem d_Mo_measure_8 : decode b_Mo_measure 8 = .ok (.imul, 1) := dk_0 a_Mo_measure_8 (dko_104 _)
theorem d_Mo_measure_9 : decode b_Mo_measure 9 = .ok (.if_icmp .ge 79, 3) := dk_S2 a_Mo_measure_9 (dko_162 _) (by decide +kernel)
theorem d_Mo_measure_12 : decode b_Mo_measure 12 = .ok (.aload_n 0, 1) := dk_0 a_Mo_measure_12 (dko_42 _)
theorem d_Mo_measure_13 : decode b_Mo_measure 13 = .ok (.getfield 49, 3) := dk_U2 a_Mo_measure_13 (dko_180 _) rfl
theorem d_Mo_measure_16 : decode b_Mo_measure 16 = .ok (.iload_n 2, 1) := dk_0 a_Mo_measure_16 (dko_28 _)
theorem d_Mo_measure_17 : decode b_Mo_measure 17 = .ok (.iconst 1, 1) := dk_0 a_Mo_measure_17 (dko_4 _)
theorem d_Mo_measure_18 : decode b_Mo_measure 18 = .ok (.ixor, 1) := dk_0 a_Mo_measure_18 (dko_130 _)
theorem d_Mo_measure_19 : decode b_Mo_measure 19 = .ok (.iaload, 1) := dk_0 a_Mo_measure_19 (dko_46 _)
theorem d_Mo_measure_20 : decode b_Mo_measure 20 = .ok (.iload_n 1, 1) := dk_0 a_Mo_measure_20 (dko_27 _)
theorem d_Mo_measure_21 : decode b_Mo_measure 21 = .ok (.if_icmp .ne 22, 3) := dk_S2 a_Mo_measure_21 (dko_160 _) (by decide +kernel)
theorem d_Mo_measure_24 : decode b_Mo_measure 24 = .ok (.aload_n 0, 1) := dk_0 a_Mo_measure_24 (dko_42 _)
theorem d_Mo_measure_25 : decode b_Mo_measure 25 = .ok (.getfield 373, 3) := dk_U2 a_Mo_measure_25 (dko_180 _) rfl
theorem d_Mo_measure_28 : decode b_Mo_measure 28 = .ok (.iload_n 2, 1) := dk_0 a_Mo_measure_28 (dko_28 _)
theorem d_Mo_measure_29 : decode b_Mo_measure 29 = .ok (.iconst 2, 1) := dk_0 a_Mo_measure_29 (dko_5 _)
theorem d_Mo_measure_30 : decode b_Mo_measure 30 = .ok (.idiv, 1) := dk_0 a_Mo_measure_30 (dko_108 _)
theorem d_Mo_measure_31 : decode b_Mo_measure 31 = .ok (.lshr, 1) := dk_0 a_Mo_measure_31 (dko_123 _)
theorem d_Mo_measure_32 : decode b_Mo_measure 32 = .ok (.lconst 1, 1) := dk_0 a_Mo_measure_32 (dko_10 _)
theorem d_Mo_measure_33 : decode b_Mo_measure 33 = .ok (.land, 1) := dk_0 a_Mo_measure_33 (dko_127 _)
theorem d_Mo_measure_34 : decode b_Mo_measure 34 = .ok (.lconst 0, 1) := dk_0 a_Mo_measure_34 (dko_9 _)
theorem d_Mo_measure_35 : decode b_Mo_measure 35 = .ok (.lcmp, 1) := dk_0 a_Mo_measure_35 (dko_148 _)
theorem d_Mo_measure_36 : decode b_Mo_measure 36 = .ok (.ifCond .ne 7, 3) := dk_S2 a_Mo_measure_36 (dko_154 _) (by decide +kernel)
theorem d_Mo_measure_39 : decode b_Mo_measure 39 = .ok (.iconst 1, 1) := dk_0 a_Mo_measure_39 (dko_4 _)
theorem d_Mo_measure_40 : decode b_Mo_measure 40 = .ok (.goto 4, 3) := dk_S2 a_Mo_measure_40 (dko_167 _) (by decide +kernel)
theorem d_Mo_measure_43 : decode b_Mo_measure 43 = .ok (.iconst 0, 1) := dk_0 a_Mo_measure_43 (dko_3 _)
theorem d_Mo_measure_44 : decode b_Mo_measure 44 = .ok (.istore_n 3, 1) := dk_0 a_Mo_measure_44 (dko_62 _)
theorem d_Mo_measure_45 : decode b_Mo_measure 45 = .ok (.aload_n 0, 1) := dk_0 a_Mo_measure_45 (dko_42 _)
theorem d_Mo_measure_46 : decode b_Mo_measure 46 = .ok (.getfield 104, 3) := dk_U2 a_Mo_measure_46 (dko_180 _) rfl
theorem d_Mo_measure_49 : decode b_Mo_measure 49 = .ok (.iload_n 2, 1) := dk_0 a_Mo_measure_49 (dko_28 _)
theorem d_Mo_measure_50 : decode b_Mo_measure 50 = .ok (.iload_n 3, 1) := dk_0 a_Mo_measure_50 (dko_29 _)
theorem d_Mo_measure_51 : decode b_Mo_measure 51 = .ok (.ifCond .eq 14, 3) := dk_S2 a_Mo_measure_51 (dko_153 _) (by decide +kernel)
theorem d_Mo_measure_54 : decode b_Mo_measure 54 = .ok (.aload_n 0, 1) := dk_0 a_Mo_measure_54 (dko_42 _)
theorem d_Mo_measure_55 : decode b_Mo_measure 55 = .ok (.getfield 46, 3) := dk_U2 a_Mo_measure_55 (dko_180 _) rfl
theorem d_Mo_measure_58 : decode b_Mo_measure 58 = .ok (.iload_n 2, 1) := dk_0 a_Mo_measure_58 (dko_28 _)
theorem d_Mo_measure_59 : decode b_Mo_measure 59 = .ok (.iconst 2, 1) := dk_0 a_Mo_measure_59 (dko_5 _)
theorem d_Mo_measure_60 : decode b_Mo_measure 60 = .ok (.idiv, 1) := dk_0 a_Mo_measure_60 (dko_108 _)
theorem d_Mo_measure_61 : decode b_Mo_measure 61 = .ok (.iaload, 1) := dk_0 a_Mo_measure_61 (dko_46 _)
theorem d_Mo_measure_62 : decode b_Mo_measure 62 = .ok (.goto 4, 3) := dk_S2 a_Mo_measure_62 (dko_167 _) (by decide +kernel)
theorem d_Mo_measure_65 : decode b_Mo_measure 65 = .ok (.iconst (-1), 1) := dk_0 a_Mo_measure_65 (dko_2 _)
theorem d_Mo_measure_66 : decode b_Mo_measure 66 = .ok (.iastore, 1) := dk_0 a_Mo_measure_66 (dko_79 _)
theorem d_Mo_measure_67 : decode b_Mo_measure 67 = .ok (.aload_n 0, 1) := dk_0 a_Mo_measure_67 (dko_42 _)
theorem d_Mo_measure_68 : decode b_Mo_measure 68 = .ok (.getfield 107, 3) := dk_U2 a_Mo_measure_68 (dko_180 _) rfl
theorem d_Mo_measure_71 : decode b_Mo_measure 71 = .ok (.iload_n 2, 1) := dk_0 a_Mo_measure_71 (dko_28 _)
theorem d_Mo_measure_72 : decode b_Mo_measure 72 = .ok (.iload_n 3, 1) := dk_0 a_Mo_measure_72 (dko_29 _)
theorem d_Mo_measure_73 : decode b_Mo_measure 73 = .ok (.ifCond .eq 7, 3) := dk_S2 a_Mo_measure_73 (dko_153 _) (by decide +kernel)
theorem d_Mo_measure_76 : decode b_Mo_measure 76 = .ok (.iconst 1, 1) := dk_0 a_Mo_measure_76 (dko_4 _)
theorem d_Mo_measure_77 : decode b_Mo_measure 77 = .ok (.goto 4, 3) := dk_S2 a_Mo_measure_77 (dko_167 _) (by decide +kernel)
theorem d_Mo_measure_80 : decode b_Mo_measure 80 = .ok (.iconst 0, 1) := dk_0 a_Mo_measure_80 (dko_3 _)
theorem d_Mo_measure_81 : decode b_Mo_measure 81 = .ok (.iastore, 1) := dk_0 a_Mo_measure_81 (dko_79 _)
theorem d_Mo_measure_82 : decode b_Mo_measure 82 = .ok (.iinc 2 1, 3) := dk_US a_Mo_measure_82 (dko_132 _) (by decide +kernel)
theorem d_Mo_measure_85 : decode b_Mo_measure 85 = .ok (.goto (-83), 3) := dk_S2 a_Mo_measure_85 (dko_167 _) (by decide +kernel)
theorem d_Mo_measure_88 : decode b_Mo_measure 88 = .ok (.iconst 1, 1) := dk_0 a_Mo_measure_88 (dko_4 _)
theorem d_Mo_measure_89 : decode b_Mo_measure 89 = .ok (.istore_n 2, 1) := dk_0 a_Mo_measure_89 (dko_61 _)
theorem d_Mo_measure_90 : decode b_Mo_measure 90 = .ok (.iload_n 2, 1) := dk_0 a_Mo_measure_90 (dko_28 _)
theorem d_Mo_measure_91 : decode b_Mo_measure 91 = .ok (.ifCond .eq 223, 3) := dk_S2 a_Mo_measure_91 (dko_153 _) (by decide +kernel)
theorem d_Mo_measure_94 : decode b_Mo_measure 94 = .ok (.iconst 0, 1) := dk_0 a_Mo_measure_94 (dko_3 _)
theorem d_Mo_measure_95 : decode b_Mo_measure 95 = .ok (.istore_n 2, 1) := dk_0 a_Mo_measure_95 (dko_61 _)
theorem d_Mo_measure_96 : decode b_Mo_measure 96 = .ok (.iconst 0, 1) := dk_0 a_Mo_measure_96 (dko_3 _)
theorem d_Mo_measure_97 : decode b_Mo_measure 97 = .ok (.istore_n 3, 1) := dk_0 a_Mo_measure_97 (dko_62 _)
theorem d_Mo_measure_98 : decode b_Mo_measure 98 = .ok (.iload_n 3, 1) := dk_0 a_Mo_measure_98 (dko_29 _)
theorem d_Mo_measure_99 : decode b_Mo_measure 99 = .ok (.iconst 2, 1) := dk_0 a_Mo_measure_99 (dko_5 _)
theorem d_Mo_measure_100 : decode b_Mo_measure 100 = .ok (.aload_n 0, 1) := dk_0 a_Mo_measure_100 (dko_42 _)
theorem d_Mo_measure_101 : decode b_Mo_measure 101 = .ok (.getfield 281, 3) := dk_U2 a_Mo_measure_101 (dko_180 _) rfl
theorem d_Mo_measure_104 : decode b_Mo_measure 104 = .ok (.imul, 1) := dk_0 a_Mo_measure_104 (dko_104 _)
theorem d_Mo_measure_105 : decode b_Mo_measure 105 = .ok (.if_icmp .ge 206, 3) := dk_S2 a_Mo_measure_105 (dko_162 _) (by decide +kernel)
theorem d_Mo_measure_108 : decode b_Mo_measure 108 = .ok (.iconst 0, 1) := dk_0 a_Mo_measure_108 (dko_3 _)
theorem d_Mo_measure_109 : decode b_Mo_measure 109 = .ok (.istore 4, 2) := dk_U1 a_Mo_measure_109 (dko_54 _) rfl
theorem d_Mo_measure_111 : decode b_Mo_measure 111 = .ok (.iload 4, 2) := dk_U1 a_Mo_measure_111 (dko_21 _) rfl
theorem d_Mo_measure_113 : decode b_Mo_measure 113 = .ok (.iconst 2, 1) := dk_0 a_Mo_measure_113 (dko_5 _)
theorem d_Mo_measure_114 : decode b_Mo_measure 114 = .ok (.aload_n 0, 1) := dk_0 a_Mo_measure_114 (dko_42 _)
theorem d_Mo_measure_115 : decode b_Mo_measure 115 = .ok (.getfield 281, 3) := dk_U2 a_Mo_measure_115 (dko_180 _) rfl
theorem d_Mo_measure_118 : decode b_Mo_measure 118 = .ok (.imul, 1) := dk_0 a_Mo_measure_118 (dko_104 _)
theorem d_Mo_measure_119 : decode b_Mo_measure 119 = .ok (.if_icmp .ge 186, 3) := dk_S2 a_Mo_measure_119 (dko_162 _) (by decide +kernel)
theorem d_Mo_measure_122 : decode b_Mo_measure 122 = .ok (.aload_n 0, 1) := dk_0 a_Mo_measure_122 (dko_42 _)
theorem d_Mo_measure_123 : decode b_Mo_measure 123 = .ok (.getfield 373, 3) := dk_U2 a_Mo_measure_123 (dko_180 _) rfl
theorem d_Mo_measure_126 : decode b_Mo_measure 126 = .ok (.iload_n 3, 1) := dk_0 a_Mo_measure_126 (dko_29 _)
theorem d_Mo_measure_127 : decode b_Mo_measure 127 = .ok (.iconst 2, 1) := dk_0 a_Mo_measure_127 (dko_5 _)
theorem d_Mo_measure_128 : decode b_Mo_measure 128 = .ok (.idiv, 1) := dk_0 a_Mo_measure_128 (dko_108 _)
theorem d_Mo_measure_129 : decode b_Mo_measure 129 = .ok (.lshr, 1) := dk_0 a_Mo_measure_129 (dko_123 _)
theorem d_Mo_measure_130 : decode b_Mo_measure 130 = .ok (.lconst 1, 1) := dk_0 a_Mo_measure_130 (dko_10 _)
theorem d_Mo_measure_131 : decode b_Mo_measure 131 = .ok (.land, 1) := dk_0 a_Mo_measure_131 (dko_127 _)
theorem d_Mo_measure_132 : decode b_Mo_measure 132 = .ok (.lconst 0, 1) := dk_0 a_Mo_measure_132 (dko_9 _)
theorem d_Mo_measure_133 : decode b_Mo_measure 133 = .ok (.lcmp, 1) := dk_0 a_Mo_measure_133 (dko_148 _)
theorem d_Mo_measure_134 : decode b_Mo_measure 134 = .ok (.ifCond .ne 171, 3) := dk_S2 a_Mo_measure_134 (dko_154 _) (by decide +kernel)
theorem d_Mo_measure_137 : decode b_Mo_measure 137 = .ok (.aload_n 0, 1) := dk_0 a_Mo_measure_137 (dko_42 _)
theorem d_Mo_measure_138 : decode b_Mo_measure 138 = .ok (.getfield 104, 3) := dk_U2 a_Mo_measure_138 (dko_180 _) rfl
theorem d_Mo_measure_141 : decode b_Mo_measure 141 = .ok (.iload 4, 2) := dk_U1 a_Mo_measure_141 (dko_21 _) rfl
theorem d_Mo_measure_143 : decode b_Mo_measure 143 = .ok (.iaload, 1) := dk_0 a_Mo_measure_143 (dko_46 _)
theorem d_Mo_measure_144 : decode b_Mo_measure 144 = .ok (.iconst (-1), 1) := dk_0 a_Mo_measure_144 (dko_2 _)
theorem d_Mo_measure_145 : decode b_Mo_measure 145 = .ok (.if_icmp .eq 154, 3) := dk_S2 a_Mo_measure_145 (dko_159 _) (by decide +kernel)
theorem d_Mo_measure_148 : decode b_Mo_measure 148 = .ok (.aload_n 0, 1) := dk_0 a_Mo_measure_148 (dko_42 _)
theorem d_Mo_measure_149 : decode b_Mo_measure 149 = .ok (.iload_n 3, 1) := dk_0 a_Mo_measure_149 (dko_29 _)
theorem d_Mo_measure_150 : decode b_Mo_measure 150 = .ok (.iconst 1, 1) := dk_0 a_Mo_measure_150 (dko_4 _)
theorem d_Mo_measure_151 : decode b_Mo_measure 151 = .ok (.ixor, 1) := dk_0 a_Mo_measure_151 (dko_130 _)
theorem d_Mo_measure_152 : decode b_Mo_measure 152 = .ok (.iload 4, 2) := dk_U1 a_Mo_measure_152 (dko_21 _) rfl
theorem d_Mo_measure_154 : decode b_Mo_measure 154 = .ok (.invokevirtual 384, 3) := dk_U2 a_Mo_measure_154 (dko_182 _) rfl
theorem d_Mo_measure_157 : decode b_Mo_measure 157 = .ok (.iconst (-1), 1) := dk_0 a_Mo_measure_157 (dko_2 _)
theorem d_Mo_measure_158 : decode b_Mo_measure 158 = .ok (.if_icmp .eq 141, 3) := dk_S2 a_Mo_measure_158 (dko_159 _) (by decide +kernel)
theorem d_Mo_measure_161 : decode b_Mo_measure 161 = .ok (.aload_n 0, 1) := dk_0 a_Mo_measure_161 (dko_42 _)
theorem d_Mo_measure_162 : decode b_Mo_measure 162 = .ok (.getfield 104, 3) := dk_U2 a_Mo_measure_162 (dko_180 _) rfl
theorem d_Mo_measure_165 : decode b_Mo_measure 165 = .ok (.iload 4, 2) := dk_U1 a_Mo_measure_165 (dko_21 _) rfl
theorem d_Mo_measure_167 : decode b_Mo_measure 167 = .ok (.iaload, 1) := dk_0 a_Mo_measure_167 (dko_46 _)
theorem d_Mo_measure_168 : decode b_Mo_measure 168 = .ok (.aload_n 0, 1) := dk_0 a_Mo_measure_168 (dko_42 _)
theorem d_Mo_measure_169 : decode b_Mo_measure 169 = .ok (.getfield 46, 3) := dk_U2 a_Mo_measure_169 (dko_180 _) rfl
theorem d_Mo_measure_172 : decode b_Mo_measure 172 = .ok (.iload_n 3, 1) := dk_0 a_Mo_measure_172 (dko_29 _)
theorem d_Mo_measure_173 : decode b_Mo_measure 173 = .ok (.iconst 2, 1) := dk_0 a_Mo_measure_173 (dko_5 _)
theorem d_Mo_measure_174 : decode b_Mo_measure 174 = .ok (.idiv, 1) := dk_0 a_Mo_measure_174 (dko_108 _)
theorem d_Mo_measure_175 : decode b_Mo_measure 175 = .ok (.iaload, 1) := dk_0 a_Mo_measure_175 (dko_46 _)
theorem d_Mo_measure_176 : decode b_Mo_measure 176 = .ok (.iadd, 1) := dk_0 a_Mo_measure_176 (dko_96 _)
theorem d_Mo_measure_177 : decode b_Mo_measure 177 = .ok (.istore 5, 2) := dk_U1 a_Mo_measure_177 (dko_54 _) rfl
theorem d_Mo_measure_179 : decode b_Mo_measure 179 = .ok (.aload_n 0, 1) := dk_0 a_Mo_measure_179 (dko_42 _)
theorem d_Mo_measure_180 : decode b_Mo_measure 180 = .ok (.getfield 107, 3) := dk_U2 a_Mo_measure_180 (dko_180 _) rfl
theorem d_Mo_measure_183 : decode b_Mo_measure 183 = .ok (.iload 4, 2) := dk_U1 a_Mo_measure_183 (dko_21 _) rfl
theorem d_Mo_measure_185 : decode b_Mo_measure 185 = .ok (.iaload, 1) := dk_0 a_Mo_measure_185 (dko_46 _)
theorem d_Mo_measure_186 : decode b_Mo_measure 186 = .ok (.iconst 1, 1) := dk_0 a_Mo_measure_186 (dko_4 _)
theorem d_Mo_measure_187 : decode b_Mo_measure 187 = .ok (.iadd, 1) := dk_0 a_Mo_measure_187 (dko_96 _)
theorem d_Mo_measure_188 : decode b_Mo_measure 188 = .ok (.istore 6, 2) := dk_U1 a_Mo_measure_188 (dko_54 _) rfl
theorem d_Mo_measure_190 : decode b_Mo_measure 190 = .ok (.aload_n 0, 1) := dk_0 a_Mo_measure_190 (dko_42 _)
theorem d_Mo_measure_191 : decode b_Mo_measure 191 = .ok (.getfield 104, 3) := dk_U2 a_Mo_measure_191 (dko_180 _) rfl
theorem d_Mo_measure_194 : decode b_Mo_measure 194 = .ok (.iload_n 3, 1) := dk_0 a_Mo_measure_194 (dko_29 _)
theorem d_Mo_measure_195 : decode b_Mo_measure 195 = .ok (.iaload, 1) := dk_0 a_Mo_measure_195 (dko_46 _)
theorem d_Mo_measure_196 : decode b_Mo_measure 196 = .ok (.iconst (-1), 1) := dk_0 a_Mo_measure_196 (dko_2 _)
theorem d_Mo_measure_197 : decode b_Mo_measure 197 = .ok (.if_icmp .eq 36, 3) := dk_S2 a_Mo_measure_197 (dko_159 _) (by decide +kernel)
theorem d_Mo_measure_200 : decode b_Mo_measure 200 = .ok (.iload 5, 2) := dk_U1 a_Mo_measure_200 (dko_21 _) rfl
theorem d_Mo_measure_202 : decode b_Mo_measure 202 = .ok (.aload_n 0, 1) := dk_0 a_Mo_measure_202 (dko_42 _)
theorem d_Mo_measure_203 : decode b_Mo_measure 203 = .ok (.getfield 104, 3) := dk_U2 a_Mo_measure_203 (dko_180 _) rfl
theorem d_Mo_measure_206 : decode b_Mo_measure 206 = .ok (.iload_n 3, 1) := dk_0 a_Mo_measure_206 (dko_29 _)
theorem d_Mo_measure_207 : decode b_Mo_measure 207 = .ok (.iaload, 1) := dk_0 a_Mo_measure_207 (dko_46 _)
theorem d_Mo_measure_208 : decode b_Mo_measure 208 = .ok (.if_icmp .lt 25, 3) := dk_S2 a_Mo_measure_208 (dko_161 _) (by decide +kernel)
theorem d_Mo_measure_211 : decode b_Mo_measure 211 = .ok (.iload 5, 2) := dk_U1 a_Mo_measure_211 (dko_21 _) rfl
theorem d_Mo_measure_213 : decode b_Mo_measure 213 = .ok (.aload_n 0, 1) := dk_0 a_Mo_measure_213 (dko_42 _)
theorem d_Mo_measure_214 : decode b_Mo_measure 214 = .ok (.getfield 104, 3) := dk_U2 a_Mo_measure_214 (dko_180 _) rfl
theorem d_Mo_measure_217 : decode b_Mo_measure 217 = .ok (.iload_n 3, 1) := dk_0 a_Mo_measure_217 (dko_29 _)
theorem d_Mo_measure_218 : decode b_Mo_measure 218 = .ok (.iaload, 1) := dk_0 a_Mo_measure_218 (dko_46 _)
theorem d_Mo_measure_219 : decode b_Mo_measure 219 = .ok (.if_icmp .ne 18, 3) := dk_S2 a_Mo_measure_219 (dko_160 _) (by decide +kernel)
theorem d_Mo_measure_222 : decode b_Mo_measure 222 = .ok (.iload 6, 2) := dk_U1 a_Mo_measure_222 (dko_21 _) rfl
theorem d_Mo_measure_224 : decode b_Mo_measure 224 = .ok (.aload_n 0, 1) := dk_0 a_Mo_measure_224 (dko_42 _)
theorem d_Mo_measure_225 : decode b_Mo_measure 225 = .ok (.getfield 107, 3) := dk_U2 a_Mo_measure_225 (dko_180 _) rfl
theorem d_Mo_measure_228 : decode b_Mo_measure 228 = .ok (.iload_n 3, 1) := dk_0 a_Mo_measure_228 (dko_29 _)
theorem d_Mo_measure_229 : decode b_Mo_measure 229 = .ok (.iaload, 1) := dk_0 a_Mo_measure_229 (dko_46 _)
theorem d_Mo_measure_230 : decode b_Mo_measure 230 = .ok (.if_icmp .ge 7, 3) := dk_S2 a_Mo_measure_230 (dko_162 _) (by decide +kernel)
theorem d_Mo_measure_233 : decode b_Mo_measure 233 = .ok (.iconst 1, 1) := dk_0 a_Mo_measure_233 (dko_4 _)
theorem d_Mo_measure_234 : decode b_Mo_measure 234 = .ok (.goto 4, 3) := dk_S2 a_Mo_measure_234 (dko_167 _) (by decide +kernel)
theorem d_Mo_measure_237 : decode b_Mo_measure 237 = .ok (.iconst 0, 1) := dk_0 a_Mo_measure_237 (dko_3 _)
theorem d_Mo_measure_238 : decode b_Mo_measure 238 = .ok (.istore 7, 2) := dk_U1 a_Mo_measure_238 (dko_54 _) rfl
theorem d_Mo_measure_240 : decode b_Mo_measure 240 = .ok (.aload_n 0, 1) := dk_0 a_Mo_measure_240 (dko_42 _)
theorem d_Mo_measure_241 : decode b_Mo_measure 241 = .ok (.getfield 104, 3) := dk_U2 a_Mo_measure_241 (dko_180 _) rfl
theorem d_Mo_measure_244 : decode b_Mo_measure 244 = .ok (.iload_n 3, 1) := dk_0 a_Mo_measure_244 (dko_29 _)
theorem d_Mo_measure_245 : decode b_Mo_measure 245 = .ok (.iload 7, 2) := dk_U1 a_Mo_measure_245 (dko_21 _) rfl
theorem d_Mo_measure_247 : decode b_Mo_measure 247 = .ok (.ifCond .eq 8, 3) := dk_S2 a_Mo_measure_247 (dko_153 _) (by decide +kernel)
theorem d_Mo_measure_250 : decode b_Mo_measure 250 = .ok (.iload 5, 2) := dk_U1 a_Mo_measure_250 (dko_21 _) rfl
theorem d_Mo_measure_252 : decode b_Mo_measure 252 = .ok (.goto 9, 3) := dk_S2 a_Mo_measure_252 (dko_167 _) (by decide +kernel)
theorem d_Mo_measure_255 : decode b_Mo_measure 255 = .ok (.aload_n 0, 1) := dk_0 a_Mo_measure_255 (dko_42 _)
theorem d_Mo_measure_256 : decode b_Mo_measure 256 = .ok (.getfield 104, 3) := dk_U2 a_Mo_measure_256 (dko_180 _) rfl
theorem d_Mo_measure_259 : decode b_Mo_measure 259 = .ok (.iload_n 3, 1) := dk_0 a_Mo_measure_259 (dko_29 _)
theorem d_Mo_measure_260 : decode b_Mo_measure 260 = .ok (.iaload, 1) := dk_0 a_Mo_measure_260 (dko_46 _)
theorem d_Mo_measure_261 : decode b_Mo_measure 261 = .ok (.iastore, 1) := dk_0 a_Mo_measure_261 (dko_79 _)
theorem d_Mo_measure_262 : decode b_Mo_measure 262 = .ok (.aload_n 0, 1) := dk_0 a_Mo_measure_262 (dko_42 _)
theorem d_Mo_measure_263 : decode b_Mo_measure 263 = .ok (.getfield 107, 3) := dk_U2 a_Mo_measure_263 (dko_180 _) rfl
theorem d_Mo_measure_266 : decode b_Mo_measure 266 = .ok (.iload_n 3, 1) := dk_0 a_Mo_measure_266 (dko_29 _)
theorem d_Mo_measure_267 : decode b_Mo_measure 267 = .ok (.iload 7, 2) := dk_U1 a_Mo_measure_267 (dko_21 _) rfl
theorem d_Mo_measure_269 : decode b_Mo_measure 269 = .ok (.ifCond .eq 8, 3) := dk_S2 a_Mo_measure_269 (dko_153 _) (by decide +kernel)
theorem d_Mo_measure_272 : decode b_Mo_measure 272 = .ok (.iload 6, 2) := dk_U1 a_Mo_measure_272 (dko_21 _) rfl
theorem d_Mo_measure_274 : decode b_Mo_measure 274 = .ok (.goto 9, 3) := dk_S2 a_Mo_measure_274 (dko_167 _) (by decide +kernel)
theorem d_Mo_measure_277 : decode b_Mo_measure 277 = .ok (.aload_n 0, 1) := dk_0 a_Mo_measure_277 (dko_42 _)
theorem d_Mo_measure_278 : decode b_Mo_measure 278 = .ok (.getfield 107, 3) := dk_U2 a_Mo_measure_278 (dko_180 _) rfl
theorem d_Mo_measure_281 : decode b_Mo_measure 281 = .ok (.iload_n 3, 1) := dk_0 a_Mo_measure_281 (dko_29 _)
theorem d_Mo_measure_282 : decode b_Mo_measure 282 = .ok (.iaload, 1) := dk_0 a_Mo_measure_282 (dko_46 _)
theorem d_Mo_measure_283 : decode b_Mo_measure 283 = .ok (.iastore, 1) := dk_0 a_Mo_measure_283 (dko_79 _)
theorem d_Mo_measure_284 : decode b_Mo_measure 284 = .ok (.iload_n 2, 1) := dk_0 a_Mo_measure_284 (dko_28 _)
theorem d_Mo_measure_285 : decode b_Mo_measure 285 = .ok (.ifCond .ne 8, 3) := dk_S2 a_Mo_measure_285 (dko_154 _) (by decide +kernel)
theorem d_Mo_measure_288 : decode b_Mo_measure 288 = .ok (.iload 7, 2) := dk_U1 a_Mo_measure_288 (dko_21 _) rfl
theorem d_Mo_measure_290 : decode b_Mo_measure 290 = .ok (.ifCond .eq 7, 3) := dk_S2 a_Mo_measure_290 (dko_153 _) (by decide +kernel)
theorem d_Mo_measure_293 : decode b_Mo_measure 293 = .ok (.iconst 1, 1) := dk_0 a_Mo_measure_293 (dko_4 _)
theorem d_Mo_measure_294 : decode b_Mo_measure 294 = .ok (.goto 4, 3) := dk_S2 a_Mo_measure_294 (dko_167 _) (by decide +kernel)
theorem d_Mo_measure_297 : decode b_Mo_measure 297 = .ok (.iconst 0, 1) := dk_0 a_Mo_measure_297 (dko_3 _)
theorem d_Mo_measure_298 : decode b_Mo_measure 298 = .ok (.istore_n 2, 1) := dk_0 a_Mo_measure_298 (dko_61 _)
theorem d_Mo_measure_299 : decode b_Mo_measure 299 = .ok (.iinc 4 1, 3) := dk_US a_Mo_measure_299 (dko_132 _) (by decide +kernel)
theorem d_Mo_measure_302 : decode b_Mo_measure 302 = .ok (.goto (-191), 3) := dk_S2 a_Mo_measure_302 (dko_167 _) (by decide +kernel)
theorem d_Mo_measure_305 : decode b_Mo_measure 305 = .ok (.iinc 3 1, 3) := dk_US a_Mo_measure_305 (dko_132 _) (by decide +kernel)
theorem d_Mo_measure_308 : decode b_Mo_measure 308 = .ok (.goto (-210), 3) := dk_S2 a_Mo_measure_308 (dko_167 _) (by decide +kernel)
theorem d_Mo_measure_311 : decode b_Mo_measure 311 = .ok (.goto (-221), 3) := dk_S2 a_Mo_measure_311 (dko_167 _) (by decide +kernel)
theorem d_Mo_measure_314 : decode b_Mo_measure 314 = .ok (.return_, 1) := dk_0 a_Mo_measure_314 (dko_177 _)
set_option maxHeartbeats 4000000 in
set_option maxRecDepth 100000 in
theorem ok_Mo_measure (pc : Nat) : OpS mt mi_Mo_measure pc (cs_Mo_measure pc) := (os_n (os_n (os_n (os_n (os_n (os_n (os_n (os_l (so_iconst d_Mo_measure_0 (by decide))) (os_l (so_istore_n d_Mo_measure_1 rfl (by decide)))) (os_n (os_l (so_iload_n d_Mo_measure_2 rfl)) (os_n (os_l (so_iconst d_Mo_measure_3 (by decide))) (os_l (so_aload_n d_Mo_measure_4 rfl))))) (os_n (os_n (os_l (so_get (C := R_Mo) (T := F_Mo) (N := 87) (j := 11) in_Mo rfl (by decide) mw_1805 d_Mo_measure_5)) (os_n (os_l (so_imul d_Mo_measure_8)) (os_l (so_icge d_Mo_measure_9 (by decide))))) (os_n (os_l (so_aload_n d_Mo_measure_12 rfl)) (os_n (os_l (so_get (C := R_Mo) (T := F_Mo) (N := 87) (j := 13) in_Mo rfl (by decide) mw_1807 d_Mo_measure_13)) (os_l (so_iload_n d_Mo_measure_16 rfl)))))) (os_n (os_n (os_n (os_l (so_iconst d_Mo_measure_17 (by decide))) (os_n (os_l (so_ixor d_Mo_measure_18)) (os_l (so_iaload d_Mo_measure_19)))) (os_n (os_l (so_iload_n d_Mo_measure_20 rfl)) (os_n (os_l (so_icne d_Mo_measure_21 (by decide))) (os_l (so_aload_n d_Mo_measure_24 rfl))))) (os_n (os_n (os_l (so_get (C := R_Mo) (T := F_Mo) (N := 87) (j := 40) in_Mo rfl (by decide) mw_1834 d_Mo_measure_25)) (os_n (os_l (so_iload_n d_Mo_measure_28 rfl)) (os_l (so_iconst d_Mo_measure_29 (by decide))))) (os_n (os_l (so_idiv d_Mo_measure_30)) (os_n (os_l (so_lshr d_Mo_measure_31)) (os_l (so_lconst d_Mo_measure_32 (by decide)))))))) (os_n (os_n (os_n (os_n (os_l (so_land d_Mo_measure_33)) (os_n (os_l (so_lconst d_Mo_measure_34 (by decide))) (os_l (so_lcmp d_Mo_measure_35)))) (os_n (os_l (so_ifne d_Mo_measure_36 (by decide))) (os_n (os_l (so_iconst d_Mo_measure_39 (by decide))) (os_l (so_goto d_Mo_measure_40 (by decide)))))) (os_n (os_n (os_l (so_iconst d_Mo_measure_43 (by decide))) (os_n (os_l (so_istore_n d_Mo_measure_44 rfl (by decide))) (os_l (so_aload_n d_Mo_measure_45 rfl)))) (os_n (os_l (so_get (C := R_Mo) (T := F_Mo) (N := 87) (j := 34) in_Mo rfl (by decide) mw_1828 d_Mo_measure_46)) (os_n (os_l (so_iload_n d_Mo_measure_49 rfl)) (os_l (so_iload_n d_Mo_measure_50 rfl)))))) (os_n (os_n (os_n (os_l (so_ifeq d_Mo_measure_51 (by decide))) (os_n (os_l (so_aload_n d_Mo_measure_54 rfl)) (os_l (so_get (C := R_Mo) (T := F_Mo) (N := 87) (j := 12) in_Mo rfl (by decide) mw_1806 d_Mo_measure_55)))) (os_n (os_l (so_iload_n d_Mo_measure_58 rfl)) (os_n (os_l (so_iconst d_Mo_measure_59 (by decide))) (os_l (so_idiv d_Mo_measure_60))))) (os_n (os_n (os_l (so_iaload d_Mo_measure_61)) (os_n (os_l (so_goto d_Mo_measure_62 (by decide))) (os_l (so_iconst d_Mo_measure_65 (by decide))))) (os_n (os_l (so_iastore d_Mo_measure_66)) (os_n (os_l (so_aload_n d_Mo_measure_67 rfl)) (os_l (so_get (C := R_Mo) (T := F_Mo) (N := 87) (j := 35) in_Mo rfl (by decide) mw_1829 d_Mo_measure_68)))))))) (os_n (os_n (os_n (os_n (os_n (os_l (so_iload_n d_Mo_measure_71 rfl)) (os_l (so_iload_n d_Mo_measure_72 rfl))) (os_n (os_l (so_ifeq d_Mo_measure_73 (by decide))) (os_n (os_l (so_iconst d_Mo_measure_76 (by decide))) (os_l (so_goto d_Mo_measure_77 (by decide)))))) (os_n (os_n (os_l (so_iconst d_Mo_measure_80 (by decide))) (os_n (os_l (so_iastore d_Mo_measure_81)) (os_l (so_iinc d_Mo_measure_82 (by decide) (by decide))))) (os_n (os_l (so_goto d_Mo_measure_85 (by decide))) (os_n (os_l (so_iconst d_Mo_measure_88 (by decide))) (os_l (so_istore_n d_Mo_measure_89 rfl (by decide))))))) (os_n (os_n (os_n (os_l (so_iload_n d_Mo_measure_90 rfl)) (os_n (os_l (so_ifeq d_Mo_measure_91 (by decide))) (os_l (so_iconst d_Mo_measure_94 (by decide))))) (os_n (os_l (so_istore_n d_Mo_measure_95 rfl (by decide))) (os_n (os_l (so_iconst d_Mo_measure_96 (by decide))) (os_l (so_istore_n d_Mo_measure_97 rfl (by decide)))))) (os_n (os_n (os_l (so_iload_n d_Mo_measure_98 rfl)) (os_n (os_l (so_iconst d_Mo_measure_99 (by decide))) (os_l (so_aload_n d_Mo_measure_100 rfl)))) (os_n (os_l (so_get (C := R_Mo) (T := F_Mo) (N := 87) (j := 11) in_Mo rfl (by decide) mw_1805 d_Mo_measure_101)) (os_n (os_l (so_imul d_Mo_measure_104)) (os_l (so_icge d_Mo_measure_105 (by decide)))))))) (os_n (os_n (os_n (os_n (os_l (so_iconst d_Mo_measure_108 (by decide))) (os_n (os_l (so_istore d_Mo_measure_109 (by decide))) (os_l (so_iload d_Mo_measure_111)))) (os_n (os_l (so_iconst d_Mo_measure_113 (by decide))) (os_n (os_l (so_aload_n d_Mo_measure_114 rfl)) (os_l (so_get (C := R_Mo) (T := F_Mo) (N := 87) (j := 11) in_Mo rfl (by decide) mw_1805 d_Mo_measure_115))))) (os_n (os_n (os_l (so_imul d_Mo_measure_118)) (os_n (os_l (so_icge d_Mo_measure_119 (by decide))) (os_l (so_aload_n d_Mo_measure_122 rfl)))) (os_n (os_l (so_get (C := R_Mo) (T := F_Mo) (N := 87) (j := 40) in_Mo rfl (by decide) mw_1834 d_Mo_measure_123)) (os_n (os_l (so_iload_n d_Mo_measure_126 rfl)) (os_l (so_iconst d_Mo_measure_127 (by decide))))))) (os_n (os_n (os_n (os_l (so_idiv d_Mo_measure_128)) (os_n (os_l (so_lshr d_Mo_measure_129)) (os_l (so_lconst d_Mo_measure_130 (by decide))))) (os_n (os_l (so_land d_Mo_measure_131)) (os_n (os_l (so_lconst d_Mo_measure_132 (by decide))) (os_l (so_lcmp d_Mo_measure_133))))) (os_n (os_n (os_l (so_ifne d_Mo_measure_134 (by decide))) (os_n (os_l (so_aload_n d_Mo_measure_137 rfl)) (os_l (so_get (C := R_Mo) (T := F_Mo) (N := 87) (j := 34) in_Mo rfl (by decide) mw_1828 d_Mo_measure_138)))) (os_n (os_l (so_iload d_Mo_measure_141)) (os_n (os_l (so_iaload d_Mo_measure_143)) (os_l (so_iconst d_Mo_measure_144 (by decide)))))))))) (os_n (os_n (os_n (os_n (os_n (os_n (os_l (so_iceq d_Mo_measure_145 (by decide))) (os_l (so_aload_n d_Mo_measure_148 rfl))) (os_n (os_l (so_iload_n d_Mo_measure_149 rfl)) (os_n (os_l (so_iconst d_Mo_measure_150 (by decide))) (os_l (so_ixor d_Mo_measure_151))))) (os_n (os_n (os_l (so_iload d_Mo_measure_152)) (os_n (os_l (so_callV (iv := mi_Mo_needOf) rfl rfl rfl mw_2510 mw_2512 sl_170 mw_18 mw_2513 ⟨by decide +kernel, by decide +kernel, by decide +kernel⟩ (by decide) d_Mo_measure_154)) (os_l (so_iconst d_Mo_measure_157 (by decide))))) (os_n (os_l (so_iceq d_Mo_measure_158 (by decide))) (os_n (os_l (so_aload_n d_Mo_measure_161 rfl)) (os_l (so_get (C := R_Mo) (T := F_Mo) (N := 87) (j := 34) in_Mo rfl (by decide) mw_1828 d_Mo_measure_162)))))) (os_n (os_n (os_n (os_l (so_iload d_Mo_measure_165)) (os_n (os_l (so_iaload d_Mo_measure_167)) (os_l (so_aload_n d_Mo_measure_168 rfl)))) (os_n (os_l (so_get (C := R_Mo) (T := F_Mo) (N := 87) (j := 12) in_Mo rfl (by decide) mw_1806 d_Mo_measure_169)) (os_n (os_l (so_iload_n d_Mo_measure_172 rfl)) (os_l (so_iconst d_Mo_measure_173 (by decide)))))) (os_n (os_n (os_l (so_idiv d_Mo_measure_174)) (os_n (os_l (so_iaload d_Mo_measure_175)) (os_l (so_iadd d_Mo_measure_176)))) (os_n (os_l (so_istore d_Mo_measure_177 (by decide))) (os_n (os_l (so_aload_n d_Mo_measure_179 rfl)) (os_l (so_get (C := R_Mo) (T := F_Mo) (N := 87) (j := 35) in_Mo rfl (by decide) mw_1829 d_Mo_measure_180))))))) (os_n (os_n (os_n (os_n (os_l (so_iload d_Mo_measure_183)) (os_n (os_l (so_iaload d_Mo_measure_185)) (os_l (so_iconst d_Mo_measure_186 (by decide))))) (os_n (os_l (so_iadd d_Mo_measure_187)) (os_n (os_l (so_istore d_Mo_measure_188 (by decide))) (os_l (so_aload_n d_Mo_measure_190 rfl))))) (os_n (os_n (os_l (so_get (C := R_Mo) (T := F_Mo) (N := 87) (j := 34) in_Mo rfl (by decide) mw_1828 d_Mo_measure_191)) (os_n (os_l (so_iload_n d_Mo_measure_194 rfl)) (os_l (so_iaload d_Mo_measure_195)))) (os_n (os_l (so_iconst d_Mo_measure_196 (by decide))) (os_n (os_l (so_iceq d_Mo_measure_197 (by decide))) (os_l (so_iload d_Mo_measure_200)))))) (os_n (os_n (os_n (os_l (so_aload_n d_Mo_measure_202 rfl)) (os_n (os_l (so_get (C := R_Mo) (T := F_Mo) (N := 87) (j := 34) in_Mo rfl (by decide) mw_1828 d_Mo_measure_203)) (os_l (so_iload_n d_Mo_measure_206 rfl)))) (os_n (os_l (so_iaload d_Mo_measure_207)) (os_n (os_l (so_iclt d_Mo_measure_208 (by decide))) (os_l (so_iload d_Mo_measure_211))))) (os_n (os_n (os_l (so_aload_n d_Mo_measure_213 rfl)) (os_n (os_l (so_get (C := R_Mo) (T := F_Mo) (N := 87) (j := 34) in_Mo rfl (by decide) mw_1828 d_Mo_measure_214)) (os_l (so_iload_n d_Mo_measure_217 rfl)))) (os_n (os_l (so_iaload d_Mo_measure_218)) (os_n (os_l (so_icne d_Mo_measure_219 (by decide))) (os_l (so_iload d_Mo_measure_222)))))))) (os_n (os_n (os_n (os_n (os_n (os_l (so_aload_n d_Mo_measure_224 rfl)) (os_l (so_get (C := R_Mo) (T := F_Mo) (N := 87) (j := 35) in_Mo rfl (by decide) mw_1829 d_Mo_measure_225))) (os_n (os_l (so_iload_n d_Mo_measure_228 rfl)) (os_n (os_l (so_iaload d_Mo_measure_229)) (os_l (so_icge d_Mo_measure_230 (by decide)))))) (os_n (os_n (os_l (so_iconst d_Mo_measure_233 (by decide))) (os_n (os_l (so_goto d_Mo_measure_234 (by decide))) (os_l (so_iconst d_Mo_measure_237 (by decide))))) (os_n (os_l (so_istore d_Mo_measure_238 (by decide))) (os_n (os_l (so_aload_n d_Mo_measure_240 rfl)) (os_l (so_get (C := R_Mo) (T := F_Mo) (N := 87) (j := 34) in_Mo rfl (by decide) mw_1828 d_Mo_measure_241)))))) (os_n (os_n (os_n (os_l (so_iload_n d_Mo_measure_244 rfl)) (os_n (os_l (so_iload d_Mo_measure_245)) (os_l (so_ifeq d_Mo_measure_247 (by decide))))) (os_n (os_l (so_iload d_Mo_measure_250)) (os_n (os_l (so_goto d_Mo_measure_252 (by decide))) (os_l (so_aload_n d_Mo_measure_255 rfl))))) (os_n (os_n (os_l (so_get (C := R_Mo) (T := F_Mo) (N := 87) (j := 34) in_Mo rfl (by decide) mw_1828 d_Mo_measure_256)) (os_n (os_l (so_iload_n d_Mo_measure_259 rfl)) (os_l (so_iaload d_Mo_measure_260)))) (os_n (os_l (so_iastore d_Mo_measure_261)) (os_n (os_l (so_aload_n d_Mo_measure_262 rfl)) (os_l (so_get (C := R_Mo) (T := F_Mo) (N := 87) (j := 35) in_Mo rfl (by decide) mw_1829 d_Mo_measure_263))))))) (os_n (os_n (os_n (os_n (os_l (so_iload_n d_Mo_measure_266 rfl)) (os_n (os_l (so_iload d_Mo_measure_267)) (os_l (so_ifeq d_Mo_measure_269 (by decide))))) (os_n (os_l (so_iload d_Mo_measure_272)) (os_n (os_l (so_goto d_Mo_measure_274 (by decide))) (os_l (so_aload_n d_Mo_measure_277 rfl))))) (os_n (os_n (os_l (so_get (C := R_Mo) (T := F_Mo) (N := 87) (j := 35) in_Mo rfl (by decide) mw_1829 d_Mo_measure_278)) (os_n (os_l (so_iload_n d_Mo_measure_281 rfl)) (os_l (so_iaload d_Mo_measure_282)))) (os_n (os_l (so_iastore d_Mo_measure_283)) (os_n (os_l (so_iload_n d_Mo_measure_284 rfl)) (os_l (so_ifne d_Mo_measure_285 (by decide))))))) (os_n (os_n (os_n (os_l (so_iload d_Mo_measure_288)) (os_n (os_l (so_ifeq d_Mo_measure_290 (by decide))) (os_l (so_iconst d_Mo_measure_293 (by decide))))) (os_n (os_l (so_goto d_Mo_measure_294 (by decide))) (os_n (os_l (so_iconst d_Mo_measure_297 (by decide))) (os_l (so_istore_n d_Mo_measure_298 rfl (by decide)))))) (os_n (os_n (os_l (so_iinc d_Mo_measure_299 (by decide) (by decide))) (os_n (os_l (so_goto d_Mo_measure_302 (by decide))) (os_l (so_iinc d_Mo_measure_305 (by decide) (by decide))))) (os_n (os_l (so_goto d_Mo_measure_308 (by decide))) (os_n (os_l (so_goto d_Mo_measure_311 (by decide))) (os_l (so_return rfl d_Mo_measure_314))))))))))
abbrev t_Mo_find_377 : List UInt8 := 172 :: []
abbrev t_Mo_find_376 : List UInt8 := 3 :: t_Mo_find_377
abbrev t_Mo_find_373 : List UInt8 := 167 :: 0 :: 4 :: t_Mo_find_376
abbrev t_Mo_find_372 : List UInt8 := 4 :: t_Mo_find_373
abbrev t_Mo_find_369 : List UInt8 := 158 :: 0 :: 7 :: t_Mo_find_372
abbrev t_Mo_find_366 : List UInt8 := 180 :: 1 :: 135 :: t_Mo_find_369
abbrev t_Mo_find_365 : List UInt8 := 42 :: t_Mo_find_366
abbrev t_Mo_find_362 : List UInt8 := 167 :: 255 :: 103 :: t_Mo_find_365
abbrev t_Mo_find_361 : List UInt8 := 62 :: t_Mo_find_362
abbrev t_Mo_find_359 : List UInt8 := 21 :: 5 :: t_Mo_find_361
abbrev t_Mo_find_358 : List UInt8 := 79 :: t_Mo_find_359
abbrev t_Mo_find_355 : List UInt8 := 182 :: 1 :: 128 :: t_Mo_find_358
abbrev t_Mo_find_353 : List UInt8 := 21 :: 5 :: t_Mo_find_355
abbrev t_Mo_find_352 : List UInt8 := 130 :: t_Mo_find_353
abbrev t_Mo_find_351 : List UInt8 := 4 :: t_Mo_find_352
abbrev t_Mo_find_350 : List UInt8 := 29 :: t_Mo_find_351
abbrev t_Mo_find_349 : List UInt8 := 42 :: t_Mo_find_350
abbrev t_Mo_find_348 : List UInt8 := 46 :: t_Mo_find_349
abbrev t_Mo_find_346 : List UInt8 := 21 :: 5 :: t_Mo_find_348
abbrev t_Mo_find_343 : List UInt8 := 180 :: 0 :: 49 :: t_Mo_find_346
abbrev t_Mo_find_342 : List UInt8 := 42 :: t_Mo_find_343
abbrev t_Mo_find_339 : List UInt8 := 180 :: 0 :: 116 :: t_Mo_find_342
abbrev t_Mo_find_338 : List UInt8 := 42 :: t_Mo_find_339
abbrev t_Mo_find_335 : List UInt8 := 159 :: 0 :: 24 :: t_Mo_find_338
abbrev t_Mo_find_334 : List UInt8 := 2 :: t_Mo_find_335
abbrev t_Mo_find_332 : List UInt8 := 21 :: 5 :: t_Mo_find_334
abbrev t_Mo_find_329 : List UInt8 := 167 :: 255 :: 184 :: t_Mo_find_332
abbrev t_Mo_find_326 : List UInt8 := 132 :: 6 :: 1 :: t_Mo_find_329
abbrev t_Mo_find_324 : List UInt8 := 54 :: 5 :: t_Mo_find_326
abbrev t_Mo_find_322 : List UInt8 := 21 :: 6 :: t_Mo_find_324
abbrev t_Mo_find_319 : List UInt8 := 159 :: 0 :: 7 :: t_Mo_find_322
abbrev t_Mo_find_318 : List UInt8 := 2 :: t_Mo_find_319
abbrev t_Mo_find_315 : List UInt8 := 182 :: 1 :: 128 :: t_Mo_find_318
abbrev t_Mo_find_313 : List UInt8 := 21 :: 6 :: t_Mo_find_315
abbrev t_Mo_find_312 : List UInt8 := 130 :: t_Mo_find_313
abbrev t_Mo_find_311 : List UInt8 := 4 :: t_Mo_find_312
abbrev t_Mo_find_310 : List UInt8 := 29 :: t_Mo_find_311
abbrev t_Mo_find_309 : List UInt8 := 42 :: t_Mo_find_310
abbrev t_Mo_find_306 : List UInt8 := 160 :: 0 :: 20 :: t_Mo_find_309
abbrev t_Mo_find_305 : List UInt8 := 100 :: t_Mo_find_306
abbrev t_Mo_find_304 : List UInt8 := 4 :: t_Mo_find_305
abbrev t_Mo_find_303 : List UInt8 := 46 :: t_Mo_find_304
abbrev t_Mo_find_302 : List UInt8 := 29 :: t_Mo_find_303
abbrev t_Mo_find_299 : List UInt8 := 180 :: 0 :: 107 :: t_Mo_find_302
abbrev t_Mo_find_298 : List UInt8 := 42 :: t_Mo_find_299
abbrev t_Mo_find_297 : List UInt8 := 46 :: t_Mo_find_298
abbrev t_Mo_find_295 : List UInt8 := 21 :: 6 :: t_Mo_find_297
abbrev t_Mo_find_292 : List UInt8 := 180 :: 0 :: 107 :: t_Mo_find_295
abbrev t_Mo_find_291 : List UInt8 := 42 :: t_Mo_find_292
abbrev t_Mo_find_288 : List UInt8 := 160 :: 0 :: 38 :: t_Mo_find_291
abbrev t_Mo_find_286 : List UInt8 := 21 :: 4 :: t_Mo_find_288
abbrev t_Mo_find_285 : List UInt8 := 46 :: t_Mo_find_286
abbrev t_Mo_find_283 : List UInt8 := 21 :: 6 :: t_Mo_find_285
abbrev t_Mo_find_280 : List UInt8 := 180 :: 0 :: 104 :: t_Mo_find_283
abbrev t_Mo_find_279 : List UInt8 := 42 :: t_Mo_find_280
abbrev t_Mo_find_276 : List UInt8 := 158 :: 0 :: 56 :: t_Mo_find_279
abbrev t_Mo_find_274 : List UInt8 := 21 :: 4 :: t_Mo_find_276
abbrev t_Mo_find_271 : List UInt8 := 160 :: 0 :: 61 :: t_Mo_find_274
abbrev t_Mo_find_270 : List UInt8 := 2 :: t_Mo_find_271
abbrev t_Mo_find_268 : List UInt8 := 21 :: 5 :: t_Mo_find_270
abbrev t_Mo_find_265 : List UInt8 := 162 :: 0 :: 67 :: t_Mo_find_268
abbrev t_Mo_find_264 : List UInt8 := 104 :: t_Mo_find_265
abbrev t_Mo_find_261 : List UInt8 := 180 :: 1 :: 25 :: t_Mo_find_264
abbrev t_Mo_find_260 : List UInt8 := 42 :: t_Mo_find_261
abbrev t_Mo_find_259 : List UInt8 := 5 :: t_Mo_find_260
abbrev t_Mo_find_257 : List UInt8 := 21 :: 6 :: t_Mo_find_259
abbrev t_Mo_find_255 : List UInt8 := 54 :: 6 :: t_Mo_find_257
abbrev t_Mo_find_254 : List UInt8 := 3 :: t_Mo_find_255
abbrev t_Mo_find_252 : List UInt8 := 54 :: 5 :: t_Mo_find_254
abbrev t_Mo_find_251 : List UInt8 := 2 :: t_Mo_find_252
abbrev t_Mo_find_249 : List UInt8 := 54 :: 4 :: t_Mo_find_251
abbrev t_Mo_find_248 : List UInt8 := 100 :: t_Mo_find_249
abbrev t_Mo_find_247 : List UInt8 := 46 :: t_Mo_find_248
abbrev t_Mo_find_246 : List UInt8 := 108 :: t_Mo_find_247
abbrev t_Mo_find_245 : List UInt8 := 5 :: t_Mo_find_246
abbrev t_Mo_find_244 : List UInt8 := 29 :: t_Mo_find_245
abbrev t_Mo_find_241 : List UInt8 := 180 :: 0 :: 46 :: t_Mo_find_244
abbrev t_Mo_find_240 : List UInt8 := 42 :: t_Mo_find_241
abbrev t_Mo_find_239 : List UInt8 := 46 :: t_Mo_find_240
abbrev t_Mo_find_238 : List UInt8 := 29 :: t_Mo_find_239
abbrev t_Mo_find_235 : List UInt8 := 180 :: 0 :: 104 :: t_Mo_find_238
abbrev t_Mo_find_234 : List UInt8 := 42 :: t_Mo_find_235
abbrev t_Mo_find_231 : List UInt8 := 181 :: 1 :: 135 :: t_Mo_find_234
abbrev t_Mo_find_230 : List UInt8 := 96 :: t_Mo_find_231
abbrev t_Mo_find_229 : List UInt8 := 4 :: t_Mo_find_230
abbrev t_Mo_find_226 : List UInt8 := 180 :: 1 :: 135 :: t_Mo_find_229
abbrev t_Mo_find_225 : List UInt8 := 89 :: t_Mo_find_226
abbrev t_Mo_find_224 : List UInt8 := 42 :: t_Mo_find_225
abbrev t_Mo_find_223 : List UInt8 := 79 :: t_Mo_find_224
abbrev t_Mo_find_222 : List UInt8 := 29 :: t_Mo_find_223
abbrev t_Mo_find_219 : List UInt8 := 180 :: 1 :: 135 :: t_Mo_find_222
abbrev t_Mo_find_218 : List UInt8 := 42 :: t_Mo_find_219
abbrev t_Mo_find_215 : List UInt8 := 180 :: 0 :: 113 :: t_Mo_find_218
abbrev t_Mo_find_214 : List UInt8 := 42 :: t_Mo_find_215
abbrev t_Mo_find_211 : List UInt8 := 159 :: 0 :: 154 :: t_Mo_find_214
abbrev t_Mo_find_210 : List UInt8 := 2 :: t_Mo_find_211
abbrev t_Mo_find_209 : List UInt8 := 29 :: t_Mo_find_210
abbrev t_Mo_find_206 : List UInt8 := 167 :: 255 :: 152 :: t_Mo_find_209
abbrev t_Mo_find_203 : List UInt8 := 132 :: 4 :: 1 :: t_Mo_find_206
abbrev t_Mo_find_202 : List UInt8 := 62 :: t_Mo_find_203
abbrev t_Mo_find_200 : List UInt8 := 21 :: 4 :: t_Mo_find_202
abbrev t_Mo_find_197 : List UInt8 := 162 :: 0 :: 6 :: t_Mo_find_200
abbrev t_Mo_find_196 : List UInt8 := 46 :: t_Mo_find_197
abbrev t_Mo_find_195 : List UInt8 := 29 :: t_Mo_find_196
abbrev t_Mo_find_192 : List UInt8 := 180 :: 0 :: 107 :: t_Mo_find_195
abbrev t_Mo_find_191 : List UInt8 := 42 :: t_Mo_find_192
abbrev t_Mo_find_190 : List UInt8 := 46 :: t_Mo_find_191
abbrev t_Mo_find_188 : List UInt8 := 21 :: 4 :: t_Mo_find_190
abbrev t_Mo_find_185 : List UInt8 := 180 :: 0 :: 107 :: t_Mo_find_188
abbrev t_Mo_find_184 : List UInt8 := 42 :: t_Mo_find_185
abbrev t_Mo_find_181 : List UInt8 := 160 :: 0 :: 22 :: t_Mo_find_184
abbrev t_Mo_find_180 : List UInt8 := 46 :: t_Mo_find_181
abbrev t_Mo_find_179 : List UInt8 := 29 :: t_Mo_find_180
abbrev t_Mo_find_176 : List UInt8 := 180 :: 0 :: 104 :: t_Mo_find_179
abbrev t_Mo_find_175 : List UInt8 := 42 :: t_Mo_find_176
abbrev t_Mo_find_174 : List UInt8 := 46 :: t_Mo_find_175
abbrev t_Mo_find_172 : List UInt8 := 21 :: 4 :: t_Mo_find_174
abbrev t_Mo_find_169 : List UInt8 := 180 :: 0 :: 104 :: t_Mo_find_172
abbrev t_Mo_find_168 : List UInt8 := 42 :: t_Mo_find_169
abbrev t_Mo_find_165 : List UInt8 := 161 :: 0 :: 35 :: t_Mo_find_168
abbrev t_Mo_find_164 : List UInt8 := 46 :: t_Mo_find_165
abbrev t_Mo_find_163 : List UInt8 := 29 :: t_Mo_find_164
abbrev t_Mo_find_160 : List UInt8 := 180 :: 0 :: 104 :: t_Mo_find_163
abbrev t_Mo_find_159 : List UInt8 := 42 :: t_Mo_find_160
abbrev t_Mo_find_158 : List UInt8 := 46 :: t_Mo_find_159
abbrev t_Mo_find_156 : List UInt8 := 21 :: 4 :: t_Mo_find_158
abbrev t_Mo_find_153 : List UInt8 := 180 :: 0 :: 104 :: t_Mo_find_156
abbrev t_Mo_find_152 : List UInt8 := 42 :: t_Mo_find_153
abbrev t_Mo_find_149 : List UInt8 := 159 :: 0 :: 51 :: t_Mo_find_152
abbrev t_Mo_find_148 : List UInt8 := 2 :: t_Mo_find_149
abbrev t_Mo_find_147 : List UInt8 := 29 :: t_Mo_find_148
abbrev t_Mo_find_144 : List UInt8 := 153 :: 0 :: 59 :: t_Mo_find_147
abbrev t_Mo_find_142 : List UInt8 := 21 :: 5 :: t_Mo_find_144
abbrev t_Mo_find_140 : List UInt8 := 54 :: 5 :: t_Mo_find_142
abbrev t_Mo_find_139 : List UInt8 := 3 :: t_Mo_find_140
abbrev t_Mo_find_136 : List UInt8 := 167 :: 0 :: 4 :: t_Mo_find_139
abbrev t_Mo_find_135 : List UInt8 := 4 :: t_Mo_find_136
abbrev t_Mo_find_132 : List UInt8 := 159 :: 0 :: 7 :: t_Mo_find_135
abbrev t_Mo_find_131 : List UInt8 := 2 :: t_Mo_find_132
abbrev t_Mo_find_130 : List UInt8 := 46 :: t_Mo_find_131
abbrev t_Mo_find_128 : List UInt8 := 21 :: 4 :: t_Mo_find_130
abbrev t_Mo_find_125 : List UInt8 := 180 :: 0 :: 104 :: t_Mo_find_128
abbrev t_Mo_find_124 : List UInt8 := 42 :: t_Mo_find_125
abbrev t_Mo_find_121 : List UInt8 := 160 :: 0 :: 18 :: t_Mo_find_124
abbrev t_Mo_find_120 : List UInt8 := 27 :: t_Mo_find_121
abbrev t_Mo_find_119 : List UInt8 := 46 :: t_Mo_find_120
abbrev t_Mo_find_117 : List UInt8 := 21 :: 4 :: t_Mo_find_119
abbrev t_Mo_find_114 : List UInt8 := 180 :: 0 :: 49 :: t_Mo_find_117
abbrev t_Mo_find_113 : List UInt8 := 42 :: t_Mo_find_114
abbrev t_Mo_find_110 : List UInt8 := 162 :: 0 :: 99 :: t_Mo_find_113
abbrev t_Mo_find_109 : List UInt8 := 104 :: t_Mo_find_110
abbrev t_Mo_find_106 : List UInt8 := 180 :: 1 :: 25 :: t_Mo_find_109
abbrev t_Mo_find_105 : List UInt8 := 42 :: t_Mo_find_106
abbrev t_Mo_find_104 : List UInt8 := 5 :: t_Mo_find_105
abbrev t_Mo_find_102 : List UInt8 := 21 :: 4 :: t_Mo_find_104
abbrev t_Mo_find_100 : List UInt8 := 54 :: 4 :: t_Mo_find_102
abbrev t_Mo_find_99 : List UInt8 := 3 :: t_Mo_find_100
abbrev t_Mo_find_98 : List UInt8 := 62 :: t_Mo_find_99
abbrev t_Mo_find_97 : List UInt8 := 2 :: t_Mo_find_98
abbrev t_Mo_find_94 : List UInt8 := 167 :: 255 :: 240 :: t_Mo_find_97
abbrev t_Mo_find_91 : List UInt8 := 132 :: 3 :: 1 :: t_Mo_find_94
abbrev t_Mo_find_90 : List UInt8 := 79 :: t_Mo_find_91
abbrev t_Mo_find_89 : List UInt8 := 2 :: t_Mo_find_90
abbrev t_Mo_find_88 : List UInt8 := 29 :: t_Mo_find_89
abbrev t_Mo_find_85 : List UInt8 := 180 :: 0 :: 116 :: t_Mo_find_88
abbrev t_Mo_find_84 : List UInt8 := 42 :: t_Mo_find_85
abbrev t_Mo_find_81 : List UInt8 := 162 :: 0 :: 16 :: t_Mo_find_84
abbrev t_Mo_find_79 : List UInt8 := 16 :: 20 :: t_Mo_find_81
abbrev t_Mo_find_78 : List UInt8 := 29 :: t_Mo_find_79
abbrev t_Mo_find_77 : List UInt8 := 62 :: t_Mo_find_78
abbrev t_Mo_find_76 : List UInt8 := 3 :: t_Mo_find_77
abbrev t_Mo_find_73 : List UInt8 := 181 :: 1 :: 135 :: t_Mo_find_76
abbrev t_Mo_find_72 : List UInt8 := 3 :: t_Mo_find_73
abbrev t_Mo_find_71 : List UInt8 := 42 :: t_Mo_find_72
abbrev t_Mo_find_68 : List UInt8 := 182 :: 1 :: 132 :: t_Mo_find_71
abbrev t_Mo_find_67 : List UInt8 := 28 :: t_Mo_find_68
abbrev t_Mo_find_66 : List UInt8 := 42 :: t_Mo_find_67
abbrev t_Mo_find_63 : List UInt8 := 167 :: 255 :: 200 :: t_Mo_find_66
abbrev t_Mo_find_60 : List UInt8 := 132 :: 3 :: 1 :: t_Mo_find_63
abbrev t_Mo_find_57 : List UInt8 := 167 :: 255 :: 217 :: t_Mo_find_60
abbrev t_Mo_find_54 : List UInt8 := 132 :: 4 :: 1 :: t_Mo_find_57
abbrev t_Mo_find_51 : List UInt8 := 181 :: 1 :: 117 :: t_Mo_find_54
abbrev t_Mo_find_50 : List UInt8 := 129 :: t_Mo_find_51
abbrev t_Mo_find_49 : List UInt8 := 121 :: t_Mo_find_50
abbrev t_Mo_find_48 : List UInt8 := 108 :: t_Mo_find_49
abbrev t_Mo_find_47 : List UInt8 := 5 :: t_Mo_find_48
abbrev t_Mo_find_46 : List UInt8 := 46 :: t_Mo_find_47
abbrev t_Mo_find_45 : List UInt8 := 96 :: t_Mo_find_46
abbrev t_Mo_find_43 : List UInt8 := 21 :: 4 :: t_Mo_find_45
abbrev t_Mo_find_42 : List UInt8 := 104 :: t_Mo_find_43
abbrev t_Mo_find_41 : List UInt8 := 29 :: t_Mo_find_42
abbrev t_Mo_find_39 : List UInt8 := 16 :: 24 :: t_Mo_find_41
abbrev t_Mo_find_36 : List UInt8 := 180 :: 0 :: 98 :: t_Mo_find_39
abbrev t_Mo_find_35 : List UInt8 := 42 :: t_Mo_find_36
abbrev t_Mo_find_34 : List UInt8 := 10 :: t_Mo_find_35
abbrev t_Mo_find_31 : List UInt8 := 180 :: 1 :: 117 :: t_Mo_find_34
abbrev t_Mo_find_30 : List UInt8 := 89 :: t_Mo_find_31
abbrev t_Mo_find_29 : List UInt8 := 42 :: t_Mo_find_30
abbrev t_Mo_find_26 : List UInt8 := 162 :: 0 :: 34 :: t_Mo_find_29
abbrev t_Mo_find_25 : List UInt8 := 46 :: t_Mo_find_26
abbrev t_Mo_find_24 : List UInt8 := 29 :: t_Mo_find_25
abbrev t_Mo_find_21 : List UInt8 := 180 :: 0 :: 95 :: t_Mo_find_24
abbrev t_Mo_find_20 : List UInt8 := 42 :: t_Mo_find_21
abbrev t_Mo_find_18 : List UInt8 := 21 :: 4 :: t_Mo_find_20
abbrev t_Mo_find_16 : List UInt8 := 54 :: 4 :: t_Mo_find_18
abbrev t_Mo_find_15 : List UInt8 := 3 :: t_Mo_find_16
abbrev t_Mo_find_12 : List UInt8 := 162 :: 0 :: 54 :: t_Mo_find_15
abbrev t_Mo_find_9 : List UInt8 := 180 :: 1 :: 28 :: t_Mo_find_12
abbrev t_Mo_find_8 : List UInt8 := 42 :: t_Mo_find_9
abbrev t_Mo_find_7 : List UInt8 := 29 :: t_Mo_find_8
abbrev t_Mo_find_6 : List UInt8 := 62 :: t_Mo_find_7
abbrev t_Mo_find_5 : List UInt8 := 3 :: t_Mo_find_6
abbrev t_Mo_find_2 : List UInt8 := 181 :: 1 :: 117 :: t_Mo_find_5
abbrev t_Mo_find_1 : List UInt8 := 9 :: t_Mo_find_2
abbrev t_Mo_find_0 : List UInt8 := 42 :: t_Mo_find_1
theorem a_Mo_find_0 : dk_at b_Mo_find 0 t_Mo_find_0 := dk_start (by decide +kernel)
theorem a_Mo_find_1 : dk_at b_Mo_find 1 t_Mo_find_1 := dk_go 1 a_Mo_find_0 rfl
theorem a_Mo_find_2 : dk_at b_Mo_find 2 t_Mo_find_2 := dk_go 1 a_Mo_find_1 rfl
theorem a_Mo_find_5 : dk_at b_Mo_find 5 t_Mo_find_5 := dk_go 3 a_Mo_find_2 rfl
theorem a_Mo_find_6 : dk_at b_Mo_find 6 t_Mo_find_6 := dk_go 1 a_Mo_find_5 rfl
theorem a_Mo_find_7 : dk_at b_Mo_find 7 t_Mo_find_7 := dk_go 1 a_Mo_find_6 rfl
theorem a_Mo_find_8 : dk_at b_Mo_find 8 t_Mo_find_8 := dk_go 1 a_Mo_find_7 rfl
theorem a_Mo_find_9 : dk_at b_Mo_find 9 t_Mo_find_9 := dk_go 1 a_Mo_find_8 rfl
theorem a_Mo_find_12 : dk_at b_Mo_find 12 t_Mo_find_12 := dk_go 3 a_Mo_find_9 rfl
theorem a_Mo_find_15 : dk_at b_Mo_find 15 t_Mo_find_15 := dk_go 3 a_Mo_find_12 rfl
theorem a_Mo_find_16 : dk_at b_Mo_find 16 t_Mo_find_16 := dk_go 1 a_Mo_find_15 rfl
theorem a_Mo_find_18 : dk_at b_Mo_find 18 t_Mo_find_18 := dk_go 2 a_Mo_find_16 rfl
theorem a_Mo_find_20 : dk_at b_Mo_find 20 t_Mo_find_20 := dk_go 2 a_Mo_find_18 rfl
theorem a_Mo_find_21 : dk_at b_Mo_find 21 t_Mo_find_21 := dk_go 1 a_Mo_find_20 rfl
theorem a_Mo_find_24 : dk_at b_Mo_find 24 t_Mo_find_24 := dk_go 3 a_Mo_find_21 rfl
theorem a_Mo_find_25 : dk_at b_Mo_find 25 t_Mo_find_25 := dk_go 1 a_Mo_find_24 rfl
theorem a_Mo_find_26 : dk_at b_Mo_find 26 t_Mo_find_26 := dk_go 1 a_Mo_find_25 rfl
theorem a_Mo_find_29 : dk_at b_Mo_find 29 t_Mo_find_29 := dk_go 3 a_Mo_find_26 rfl
theorem a_Mo_find_30 : dk_at b_Mo_find 30 t_Mo_find_30 := dk_go 1 a_Mo_find_29 rfl
theorem a_Mo_find_31 : dk_at b_Mo_find 31 t_Mo_find_31 := dk_go 1 a_Mo_find_30 rfl
theorem a_Mo_find_34 : dk_at b_Mo_find 34 t_Mo_find_34 := dk_go 3 a_Mo_find_31 rfl
theorem a_Mo_find_35 : dk_at b_Mo_find 35 t_Mo_find_35 := dk_go 1 a_Mo_find_34 rfl
theorem a_Mo_find_36 : dk_at b_Mo_find 36 t_Mo_find_36 := dk_go 1 a_Mo_find_35 rfl
theorem a_Mo_find_39 : dk_at b_Mo_find 39 t_Mo_find_39 := dk_go 3 a_Mo_find_36 rfl
theorem a_Mo_find_41 : dk_at b_Mo_find 41 t_Mo_find_41 := dk_go 2 a_Mo_find_39 rfl
theorem a_Mo_find_42 : dk_at b_Mo_find 42 t_Mo_find_42 := dk_go 1 a_Mo_find_41 rfl
theorem a_Mo_find_43 : dk_at b_Mo_find 43 t_Mo_find_43 := dk_go 1 a_Mo_find_42 rfl
theorem a_Mo_find_45 : dk_at b_Mo_find 45 t_Mo_find_45 := dk_go 2 a_Mo_find_43 rfl
theorem a_Mo_find_46 : dk_at b_Mo_find 46 t_Mo_find_46 := dk_go 1 a_Mo_find_45 rfl
theorem a_Mo_find_47 : dk_at b_Mo_find 47 t_Mo_find_47 := dk_go 1 a_Mo_find_46 rfl
theorem a_Mo_find_48 : dk_at b_Mo_find 48 t_Mo_find_48 := dk_go 1 a_Mo_find_47 rfl
theorem a_Mo_find_49 : dk_at b_Mo_find 49 t_Mo_find_49 := dk_go 1 a_Mo_find_48 rfl
theorem a_Mo_find_50 : dk_at b_Mo_find 50 t_Mo_find_50 := dk_go 1 a_Mo_find_49 rfl
theorem a_Mo_find_51 : dk_at b_Mo_find 51 t_Mo_find_51 := dk_go 1 a_Mo_find_50 rfl
theorem a_Mo_find_54 : dk_at b_Mo_find 54 t_Mo_find_54 := dk_go 3 a_Mo_find_51 rfl
theorem a_Mo_find_57 : dk_at b_Mo_find 57 t_Mo_find_57 := dk_go 3 a_Mo_find_54 rfl
theorem a_Mo_find_60 : dk_at b_Mo_find 60 t_Mo_find_60 := dk_go 3 a_Mo_find_57 rfl
theorem a_Mo_find_63 : dk_at b_Mo_find 63 t_Mo_find_63 := dk_go 3 a_Mo_find_60 rfl
theorem a_Mo_find_66 : dk_at b_Mo_find 66 t_Mo_find_66 := dk_go 3 a_Mo_find_63 rfl
theorem a_Mo_find_67 : dk_at b_Mo_find 67 t_Mo_find_67 := dk_go 1 a_Mo_find_66 rfl
theorem a_Mo_find_68 : dk_at b_Mo_find 68 t_Mo_find_68 := dk_go 1 a_Mo_find_67 rfl
theorem a_Mo_find_71 : dk_at b_Mo_find 71 t_Mo_find_71 := dk_go 3 a_Mo_find_68 rfl
theorem a_Mo_find_72 : dk_at b_Mo_find 72 t_Mo_find_72 := dk_go 1 a_Mo_find_71 rfl
theorem a_Mo_find_73 : dk_at b_Mo_find 73 t_Mo_find_73 := dk_go 1 a_Mo_find_72 rfl
theorem a_Mo_find_76 : dk_at b_Mo_find 76 t_Mo_find_76 := dk_go 3 a_Mo_find_73 rfl
theorem a_Mo_find_77 : dk_at b_Mo_find 77 t_Mo_find_77 := dk_go 1 a_Mo_find_76 rfl
theorem a_Mo_find_78 : dk_at b_Mo_find 78 t_Mo_find_78 := dk_go 1 a_Mo_find_77 rfl
theorem a_Mo_find_79 : dk_at b_Mo_find 79 t_Mo_find_79 := dk_go 1 a_Mo_find_78 rfl
theorem a_Mo_find_81 : dk_at b_Mo_find 81 t_Mo_find_81 := dk_go 2 a_Mo_find_79 rfl
theorem a_Mo_find_84 : dk_at b_Mo_find 84 t_Mo_find_84 := dk_go 3 a_Mo_find_81 rfl
theorem a_Mo_find_85 : dk_at b_Mo_find 85 t_Mo_find_85 := dk_go 1 a_Mo_find_84 rfl
theorem a_Mo_find_88 : dk_at b_Mo_find 88 t_Mo_find_88 := dk_go 3 a_Mo_find_85 rfl
theorem a_Mo_find_89 : dk_at b_Mo_find 89 t_Mo_find_89 := dk_go 1 a_Mo_find_88 rfl
theorem a_Mo_find_90 : dk_at b_Mo_find 90 t_Mo_find_90 := dk_go 1 a_Mo_find_89 rfl
theorem a_Mo_find_91 : dk_at b_Mo_find 91 t_Mo_find_91 := dk_go 1 a_Mo_find_90 rfl
theorem a_Mo_find_94 : dk_at b_Mo_find 94 t_Mo_find_94 := dk_go 3 a_Mo_find_91 rfl
theorem a_Mo_find_97 : dk_at b_Mo_find 97 t_Mo_find_97 := dk_go 3 a_Mo_find_94 rfl
theorem a_Mo_find_98 : dk_at b_Mo_find 98 t_Mo_find_98 := dk_go 1 a_Mo_find_97 rfl
theorem a_Mo_find_99 : dk_at b_Mo_find 99 t_Mo_find_99 := dk_go 1 a_Mo_find_98 rfl
theorem a_Mo_find_100 : dk_at b_Mo_find 100 t_Mo_find_100 := dk_go 1 a_Mo_find_99 rfl
theorem a_Mo_find_102 : dk_at b_Mo_find 102 t_Mo_find_102 := dk_go 2 a_Mo_find_100 rfl
theorem a_Mo_find_104 : dk_at b_Mo_find 104 t_Mo_find_104 := dk_go 2 a_Mo_find_102 rfl
theorem a_Mo_find_105 : dk_at b_Mo_find 105 t_Mo_find_105 := dk_go 1 a_Mo_find_104 rfl
theorem a_Mo_find_106 : dk_at b_Mo_find 106 t_Mo_find_106 := dk_go 1 a_Mo_find_105 rfl
theorem a_Mo_find_109 : dk_at b_Mo_find 109 t_Mo_find_109 := dk_go 3 a_Mo_find_106 rfl
theorem a_Mo_find_110 : dk_at b_Mo_find 110 t_Mo_find_110 := dk_go 1 a_Mo_find_109 rfl
theorem a_Mo_find_113 : dk_at b_Mo_find 113 t_Mo_find_113 := dk_go 3 a_Mo_find_110 rfl
theorem a_Mo_find_114 : dk_at b_Mo_find 114 t_Mo_find_114 := dk_go 1 a_Mo_find_113 rfl
theorem a_Mo_find_117 : dk_at b_Mo_find 117 t_Mo_find_117 := dk_go 3 a_Mo_find_114 rfl
theorem a_Mo_find_119 : dk_at b_Mo_find 119 t_Mo_find_119 := dk_go 2 a_Mo_find_117 rfl
theorem a_Mo_find_120 : dk_at b_Mo_find 120 t_Mo_find_120 := dk_go 1 a_Mo_find_119 rfl
theorem a_Mo_find_121 : dk_at b_Mo_find 121 t_Mo_find_121 := dk_go 1 a_Mo_find_120 rfl
theorem a_Mo_find_124 : dk_at b_Mo_find 124 t_Mo_find_124 := dk_go 3 a_Mo_find_121 rfl
theorem a_Mo_find_125 : dk_at b_Mo_find 125 t_Mo_find_125 := dk_go 1 a_Mo_find_124 rfl
theorem a_Mo_find_128 : dk_at b_Mo_find 128 t_Mo_find_128 := dk_go 3 a_Mo_find_125 rfl
theorem a_Mo_find_130 : dk_at b_Mo_find 130 t_Mo_find_130 := dk_go 2 a_Mo_find_128 rfl
theorem a_Mo_find_131 : dk_at b_Mo_find 131 t_Mo_find_131 := dk_go 1 a_Mo_find_130 rfl
theorem a_Mo_find_132 : dk_at b_Mo_find 132 t_Mo_find_132 := dk_go 1 a_Mo_find_131 rfl
theorem a_Mo_find_135 : dk_at b_Mo_find 135 t_Mo_find_135 := dk_go 3 a_Mo_find_132 rfl
theorem a_Mo_find_136 : dk_at b_Mo_find 136 t_Mo_find_136 := dk_go 1 a_Mo_find_135 rfl
theorem a_Mo_find_139 : dk_at b_Mo_find 139 t_Mo_find_139 := dk_go 3 a_Mo_find_136 rfl
theorem a_Mo_find_140 : dk_at b_Mo_find 140 t_Mo_find_140 := dk_go 1 a_Mo_find_139 rfl
theorem a_Mo_find_142 : dk_at b_Mo_find 142 t_Mo_find_142 := dk_go 2 a_Mo_find_140 rfl
theorem a_Mo_find_144 : dk_at b_Mo_find 144 t_Mo_find_144 := dk_go 2 a_Mo_find_142 rfl
theorem a_Mo_find_147 : dk_at b_Mo_find 147 t_Mo_find_147 := dk_go 3 a_Mo_find_144 rfl
theorem a_Mo_find_148 : dk_at b_Mo_find 148 t_Mo_find_148 := dk_go 1 a_Mo_find_147 rfl
theorem a_Mo_find_149 : dk_at b_Mo_find 149 t_Mo_find_149 := dk_go 1 a_Mo_find_148 rfl
theorem a_Mo_find_152 : dk_at b_Mo_find 152 t_Mo_find_152 := dk_go 3 a_Mo_find_149 rfl
theorem a_Mo_find_153 : dk_at b_Mo_find 153 t_Mo_find_153 := dk_go 1 a_Mo_find_152 rfl
theorem a_Mo_find_156 : dk_at b_Mo_find 156 t_Mo_find_156 := dk_go 3 a_Mo_find_153 rfl
theorem a_Mo_find_158 : dk_at b_Mo_find 158 t_Mo_find_158 := dk_go 2 a_Mo_find_156 rfl
theorem a_Mo_find_159 : dk_at b_Mo_find 159 t_Mo_find_159 := dk_go 1 a_Mo_find_158 rfl
theorem a_Mo_find_160 : dk_at b_Mo_find 160 t_Mo_find_160 := dk_go 1 a_Mo_find_159 rfl
theorem a_Mo_find_163 : dk_at b_Mo_find 163 t_Mo_find_163 := dk_go 3 a_Mo_find_160 rfl
theorem a_Mo_find_164 : dk_at b_Mo_find 164 t_Mo_find_164 := dk_go 1 a_Mo_find_163 rfl
theorem a_Mo_find_165 : dk_at b_Mo_find 165 t_Mo_find_165 := dk_go 1 a_Mo_find_164 rfl
theorem a_Mo_find_168 : dk_at b_Mo_find 168 t_Mo_find_168 := dk_go 3 a_Mo_find_165 rfl
theorem a_Mo_find_169 : dk_at b_Mo_find 169 t_Mo_find_169 := dk_go 1 a_Mo_find_168 rfl
theorem a_Mo_find_172 : dk_at b_Mo_find 172 t_Mo_find_172 := dk_go 3 a_Mo_find_169 rfl
theorem a_Mo_find_174 : dk_at b_Mo_find 174 t_Mo_find_174 := dk_go 2 a_Mo_find_172 rfl
theorem a_Mo_find_175 : dk_at b_Mo_find 175 t_Mo_find_175 := dk_go 1 a_Mo_find_174 rfl
theorem a_Mo_find_176 : dk_at b_Mo_find 176 t_Mo_find_176 := dk_go 1 a_Mo_find_175 rfl
theorem a_Mo_find_179 : dk_at b_Mo_find 179 t_Mo_find_179 := dk_go 3 a_Mo_find_176 rfl
theorem a_Mo_find_180 : dk_at b_Mo_find 180 t_Mo_find_180 := dk_go 1 a_Mo_find_179 rfl
theorem a_Mo_find_181 : dk_at b_Mo_find 181 t_Mo_find_181 := dk_go 1 a_Mo_find_180 rfl
theorem a_Mo_find_184 : dk_at b_Mo_find 184 t_Mo_find_184 := dk_go 3 a_Mo_find_181 rfl
theorem a_Mo_find_185 : dk_at b_Mo_find 185 t_Mo_find_185 := dk_go 1 a_Mo_find_184 rfl
theorem a_Mo_find_188 : dk_at b_Mo_find 188 t_Mo_find_188 := dk_go 3 a_Mo_find_185 rfl
theorem a_Mo_find_190 : dk_at b_Mo_find 190 t_Mo_find_190 := dk_go 2 a_Mo_find_188 rfl
theorem a_Mo_find_191 : dk_at b_Mo_find 191 t_Mo_find_191 := dk_go 1 a_Mo_find_190 rfl
theorem a_Mo_find_192 : dk_at b_Mo_find 192 t_Mo_find_192 := dk_go 1 a_Mo_find_191 rfl
theorem a_Mo_find_195 : dk_at b_Mo_find 195 t_Mo_find_195 := dk_go 3 a_Mo_find_192 rfl
theorem a_Mo_find_196 : dk_at b_Mo_find 196 t_Mo_find_196 := dk_go 1 a_Mo_find_195 rfl
theorem a_Mo_find_197 : dk_at b_Mo_find 197 t_Mo_find_197 := dk_go 1 a_Mo_find_196 rfl
theorem a_Mo_find_200 : dk_at b_Mo_find 200 t_Mo_find_200 := dk_go 3 a_Mo_find_197 rfl
theorem a_Mo_find_202 : dk_at b_Mo_find 202 t_Mo_find_202 := dk_go 2 a_Mo_find_200 rfl
theorem a_Mo_find_203 : dk_at b_Mo_find 203 t_Mo_find_203 := dk_go 1 a_Mo_find_202 rfl
theorem a_Mo_find_206 : dk_at b_Mo_find 206 t_Mo_find_206 := dk_go 3 a_Mo_find_203 rfl
theorem a_Mo_find_209 : dk_at b_Mo_find 209 t_Mo_find_209 := dk_go 3 a_Mo_find_206 rfl
theorem a_Mo_find_210 : dk_at b_Mo_find 210 t_Mo_find_210 := dk_go 1 a_Mo_find_209 rfl
theorem a_Mo_find_211 : dk_at b_Mo_find 211 t_Mo_find_211 := dk_go 1 a_Mo_find_210 rfl
theorem a_Mo_find_214 : dk_at b_Mo_find 214 t_Mo_find_214 := dk_go 3 a_Mo_find_211 rfl
theorem a_Mo_find_215 : dk_at b_Mo_find 215 t_Mo_find_215 := dk_go 1 a_Mo_find_214 rfl
theorem a_Mo_find_218 : dk_at b_Mo_find 218 t_Mo_find_218 := dk_go 3 a_Mo_find_215 rfl
theorem a_Mo_find_219 : dk_at b_Mo_find 219 t_Mo_find_219 := dk_go 1 a_Mo_find_218 rfl
theorem a_Mo_find_222 : dk_at b_Mo_find 222 t_Mo_find_222 := dk_go 3 a_Mo_find_219 rfl
theorem a_Mo_find_223 : dk_at b_Mo_find 223 t_Mo_find_223 := dk_go 1 a_Mo_find_222 rfl
theorem a_Mo_find_224 : dk_at b_Mo_find 224 t_Mo_find_224 := dk_go 1 a_Mo_find_223 rfl
theorem a_Mo_find_225 : dk_at b_Mo_find 225 t_Mo_find_225 := dk_go 1 a_Mo_find_224 rfl
theorem a_Mo_find_226 : dk_at b_Mo_find 226 t_Mo_find_226 := dk_go 1 a_Mo_find_225 rfl
theorem a_Mo_find_229 : dk_at b_Mo_find 229 t_Mo_find_229 := dk_go 3 a_Mo_find_226 rfl
theorem a_Mo_find_230 : dk_at b_Mo_find 230 t_Mo_find_230 := dk_go 1 a_Mo_find_229 rfl
theorem a_Mo_find_231 : dk_at b_Mo_find 231 t_Mo_find_231 := dk_go 1 a_Mo_find_230 rfl
theorem a_Mo_find_234 : dk_at b_Mo_find 234 t_Mo_find_234 := dk_go 3 a_Mo_find_231 rfl
theorem a_Mo_find_235 : dk_at b_Mo_find 235 t_Mo_find_235 := dk_go 1 a_Mo_find_234 rfl
theorem a_Mo_find_238 : dk_at b_Mo_find 238 t_Mo_find_238 := dk_go 3 a_Mo_find_235 rfl
theorem a_Mo_find_239 : dk_at b_Mo_find 239 t_Mo_find_239 := dk_go 1 a_Mo_find_238 rfl
theorem a_Mo_find_240 : dk_at b_Mo_find 240 t_Mo_find_240 := dk_go 1 a_Mo_find_239 rfl
theorem a_Mo_find_241 : dk_at b_Mo_find 241 t_Mo_find_241 := dk_go 1 a_Mo_find_240 rfl
theorem a_Mo_find_244 : dk_at b_Mo_find 244 t_Mo_find_244 := dk_go 3 a_Mo_find_241 rfl
theorem a_Mo_find_245 : dk_at b_Mo_find 245 t_Mo_find_245 := dk_go 1 a_Mo_find_244 rfl
theorem a_Mo_find_246 : dk_at b_Mo_find 246 t_Mo_find_246 := dk_go 1 a_Mo_find_245 rfl
theorem a_Mo_find_247 : dk_at b_Mo_find 247 t_Mo_find_247 := dk_go 1 a_Mo_find_246 rfl
theorem a_Mo_find_248 : dk_at b_Mo_find 248 t_Mo_find_248 := dk_go 1 a_Mo_find_247 rfl
theorem a_Mo_find_249 : dk_at b_Mo_find 249 t_Mo_find_249 := dk_go 1 a_Mo_find_248 rfl
theorem a_Mo_find_251 : dk_at b_Mo_find 251 t_Mo_find_251 := dk_go 2 a_Mo_find_249 rfl
theorem a_Mo_find_252 : dk_at b_Mo_find 252 t_Mo_find_252 := dk_go 1 a_Mo_find_251 rfl
theorem a_Mo_find_254 : dk_at b_Mo_find 254 t_Mo_find_254 := dk_go 2 a_Mo_find_252 rfl
theorem a_Mo_find_255 : dk_at b_Mo_find 255 t_Mo_find_255 := dk_go 1 a_Mo_find_254 rfl
theorem a_Mo_find_257 : dk_at b_Mo_find 257 t_Mo_find_257 := dk_go 2 a_Mo_find_255 rfl
theorem a_Mo_find_259 : dk_at b_Mo_find 259 t_Mo_find_259 := dk_go 2 a_Mo_find_257 rfl
theorem a_Mo_find_260 : dk_at b_Mo_find 260 t_Mo_find_260 := dk_go 1 a_Mo_find_259 rfl
theorem a_Mo_find_261 : dk_at b_Mo_find 261 t_Mo_find_261 := dk_go 1 a_Mo_find_260 rfl
theorem a_Mo_find_264 : dk_at b_Mo_find 264 t_Mo_find_264 := dk_go 3 a_Mo_find_261 rfl
theorem a_Mo_find_265 : dk_at b_Mo_find 265 t_Mo_find_265 := dk_go 1 a_Mo_find_264 rfl
theorem a_Mo_find_268 : dk_at b_Mo_find 268 t_Mo_find_268 := dk_go 3 a_Mo_find_265 rfl
theorem a_Mo_find_270 : dk_at b_Mo_find 270 t_Mo_find_270 := dk_go 2 a_Mo_find_268 rfl
theorem a_Mo_find_271 : dk_at b_Mo_find 271 t_Mo_find_271 := dk_go 1 a_Mo_find_270 rfl
theorem a_Mo_find_274 : dk_at b_Mo_find 274 t_Mo_find_274 := dk_go 3 a_Mo_find_271 rfl
theorem a_Mo_find_276 : dk_at b_Mo_find 276 t_Mo_find_276 := dk_go 2 a_Mo_find_274 rfl
theorem a_Mo_find_279 : dk_at b_Mo_find 279 t_Mo_find_279 := dk_go 3 a_Mo_find_276 rfl
theorem a_Mo_find_280 : dk_at b_Mo_find 280 t_Mo_find_280 := dk_go 1 a_Mo_find_279 rfl
theorem a_Mo_find_283 : dk_at b_Mo_find 283 t_Mo_find_283 := dk_go 3 a_Mo_find_280 rfl
theorem a_Mo_find_285 : dk_at b_Mo_find 285 t_Mo_find_285 := dk_go 2 a_Mo_find_283 rfl
theorem a_Mo_find_286 : dk_at b_Mo_find 286 t_Mo_find_286 := dk_go 1 a_Mo_find_285 rfl
theorem a_Mo_find_288 : dk_at b_Mo_find 288 t_Mo_find_288 := dk_go 2 a_Mo_find_286 rfl
theorem a_Mo_find_291 : dk_at b_Mo_find 291 t_Mo_find_291 := dk_go 3 a_Mo_find_288 rfl
theorem a_Mo_find_292 : dk_at b_Mo_find 292 t_Mo_find_292 := dk_go 1 a_Mo_find_291 rfl
theorem a_Mo_find_295 : dk_at b_Mo_find 295 t_Mo_find_295 := dk_go 3 a_Mo_find_292 rfl
theorem a_Mo_find_297 : dk_at b_Mo_find 297 t_Mo_find_297 := dk_go 2 a_Mo_find_295 rfl
theorem a_Mo_find_298 : dk_at b_Mo_find 298 t_Mo_find_298 := dk_go 1 a_Mo_find_297 rfl
theorem a_Mo_find_299 : dk_at b_Mo_find 299 t_Mo_find_299 := dk_go 1 a_Mo_find_298 rfl
theorem a_Mo_find_302 : dk_at b_Mo_find 302 t_Mo_find_302 := dk_go 3 a_Mo_find_299 rfl
theorem a_Mo_find_303 : dk_at b_Mo_find 303 t_Mo_find_303 := dk_go 1 a_Mo_find_302 rfl
theorem a_Mo_find_304 : dk_at b_Mo_find 304 t_Mo_find_304 := dk_go 1 a_Mo_find_303 rfl
theorem a_Mo_find_305 : dk_at b_Mo_find 305 t_Mo_find_305 := dk_go 1 a_Mo_find_304 rfl
theorem a_Mo_find_306 : dk_at b_Mo_find 306 t_Mo_find_306 := dk_go 1 a_Mo_find_305 rfl
theorem a_Mo_find_309 : dk_at b_Mo_find 309 t_Mo_find_309 := dk_go 3 a_Mo_find_306 rfl
theorem a_Mo_find_310 : dk_at b_Mo_find 310 t_Mo_find_310 := dk_go 1 a_Mo_find_309 rfl
theorem a_Mo_find_311 : dk_at b_Mo_find 311 t_Mo_find_311 := dk_go 1 a_Mo_find_310 rfl
theorem a_Mo_find_312 : dk_at b_Mo_find 312 t_Mo_find_312 := dk_go 1 a_Mo_find_311 rfl
theorem a_Mo_find_313 : dk_at b_Mo_find 313 t_Mo_find_313 := dk_go 1 a_Mo_find_312 rfl
theorem a_Mo_find_315 : dk_at b_Mo_find 315 t_Mo_find_315 := dk_go 2 a_Mo_find_313 rfl
theorem a_Mo_find_318 : dk_at b_Mo_find 318 t_Mo_find_318 := dk_go 3 a_Mo_find_315 rfl
theorem a_Mo_find_319 : dk_at b_Mo_find 319 t_Mo_find_319 := dk_go 1 a_Mo_find_318 rfl
theorem a_Mo_find_322 : dk_at b_Mo_find 322 t_Mo_find_322 := dk_go 3 a_Mo_find_319 rfl
theorem a_Mo_find_324 : dk_at b_Mo_find 324 t_Mo_find_324 := dk_go 2 a_Mo_find_322 rfl
theorem a_Mo_find_326 : dk_at b_Mo_find 326 t_Mo_find_326 := dk_go 2 a_Mo_find_324 rfl
theorem a_Mo_find_329 : dk_at b_Mo_find 329 t_Mo_find_329 := dk_go 3 a_Mo_find_326 rfl
theorem a_Mo_find_332 : dk_at b_Mo_find 332 t_Mo_find_332 := dk_go 3 a_Mo_find_329 rfl
theorem a_Mo_find_334 : dk_at b_Mo_find 334 t_Mo_find_334 := dk_go 2 a_Mo_find_332 rfl
theorem a_Mo_find_335 : dk_at b_Mo_find 335 t_Mo_find_335 := dk_go 1 a_Mo_find_334 rfl
theorem a_Mo_find_338 : dk_at b_Mo_find 338 t_Mo_find_338 := dk_go 3 a_Mo_find_335 rfl
theorem a_Mo_find_339 : dk_at b_Mo_find 339 t_Mo_find_339 := dk_go 1 a_Mo_find_338 rfl
theorem a_Mo_find_342 : dk_at b_Mo_find 342 t_Mo_find_342 := dk_go 3 a_Mo_find_339 rfl
theorem a_Mo_find_343 : dk_at b_Mo_find 343 t_Mo_find_343 := dk_go 1 a_Mo_find_342 rfl
theorem a_Mo_find_346 : dk_at b_Mo_find 346 t_Mo_find_346 := dk_go 3 a_Mo_find_343 rfl
theorem a_Mo_find_348 : dk_at b_Mo_find 348 t_Mo_find_348 := dk_go 2 a_Mo_find_346 rfl
theorem a_Mo_find_349 : dk_at b_Mo_find 349 t_Mo_find_349 := dk_go 1 a_Mo_find_348 rfl
theorem a_Mo_find_350 : dk_at b_Mo_find 350 t_Mo_find_350 := dk_go 1 a_Mo_find_349 rfl
theorem a_Mo_find_351 : dk_at b_Mo_find 351 t_Mo_find_351 := dk_go 1 a_Mo_find_350 rfl
theorem a_Mo_find_352 : dk_at b_Mo_find 352 t_Mo_find_352 := dk_go 1 a_Mo_find_351 rfl
theorem a_Mo_find_353 : dk_at b_Mo_find 353 t_Mo_find_353 := dk_go 1 a_Mo_find_352 rfl
theorem a_Mo_find_355 : dk_at b_Mo_find 355 t_Mo_find_355 := dk_go 2 a_Mo_find_353 rfl
theorem a_Mo_find_358 : dk_at b_Mo_find 358 t_Mo_find_358 := dk_go 3 a_Mo_find_355 rfl
theorem a_Mo_find_359 : dk_at b_Mo_find 359 t_Mo_find_359 := dk_go 1 a_Mo_find_358 rfl
theorem a_Mo_find_361 : dk_at b_Mo_find 361 t_Mo_find_361 := dk_go 2 a_Mo_find_359 rfl
theorem a_Mo_find_362 : dk_at b_Mo_find 362 t_Mo_find_362 := dk_go 1 a_Mo_find_361 rfl
theorem a_Mo_find_365 : dk_at b_Mo_find 365 t_Mo_find_365 := dk_go 3 a_Mo_find_362 rfl
theorem a_Mo_find_366 : dk_at b_Mo_find 366 t_Mo_find_366 := dk_go 1 a_Mo_find_365 rfl
theorem a_Mo_find_369 : dk_at b_Mo_find 369 t_Mo_find_369 := dk_go 3 a_Mo_find_366 rfl
theorem a_Mo_find_372 : dk_at b_Mo_find 372 t_Mo_find_372 := dk_go 3 a_Mo_find_369 rfl
theorem a_Mo_find_373 : dk_at b_Mo_find 373 t_Mo_find_373 := dk_go 1 a_Mo_find_372 rfl
theorem a_Mo_find_376 : dk_at b_Mo_find 376 t_Mo_find_376 := dk_go 3 a_Mo_find_373 rfl
theorem a_Mo_find_377 : dk_at b_Mo_find 377 t_Mo_find_377 := dk_go 1 a_Mo_find_376 rfl
theorem d_Mo_find_0 : decode b_Mo_find 0 = .ok (.aload_n 0, 1) := dk_0 a_Mo_find_0 (dko_42 _)
theorem d_Mo_find_1 : decode b_Mo_find 1 = .ok (.lconst 0, 1) := dk_0 a_Mo_find_1 (dko_9 _)
theorem d_Mo_find_2 : decode b_Mo_find 2 = .ok (.putfield 373, 3) := dk_U2 a_Mo_find_2 (dko_181 _) rfl
theorem d_Mo_find_5 : decode b_Mo_find 5 = .ok (.iconst 0, 1) := dk_0 a_Mo_find_5 (dko_3 _)
theorem d_Mo_find_6 : decode b_Mo_find 6 = .ok (.istore_n 3, 1) := dk_0 a_Mo_find_6 (dko_62 _)
theorem d_Mo_find_7 : decode b_Mo_find 7 = .ok (.iload_n 3, 1) := dk_0 a_Mo_find_7 (dko_29 _)
theorem d_Mo_find_8 : decode b_Mo_find 8 = .ok (.aload_n 0, 1) := dk_0 a_Mo_find_8 (dko_42 _)
theorem d_Mo_find_9 : decode b_Mo_find 9 = .ok (.getfield 284, 3) := dk_U2 a_Mo_find_9 (dko_180 _) rfl
theorem d_Mo_find_12 : decode b_Mo_find 12 = .ok (.if_icmp .ge 54, 3) := dk_S2 a_Mo_find_12 (dko_162 _) (by decide +kernel)
theorem d_Mo_find_15 : decode b_Mo_find 15 = .ok (.iconst 0, 1) := dk_0 a_Mo_find_15 (dko_3 _)
theorem d_Mo_find_16 : decode b_Mo_find 16 = .ok (.istore 4, 2) := dk_U1 a_Mo_find_16 (dko_54 _) rfl
theorem d_Mo_find_18 : decode b_Mo_find 18 = .ok (.iload 4, 2) := dk_U1 a_Mo_find_18 (dko_21 _) rfl
theorem d_Mo_find_20 : decode b_Mo_find 20 = .ok (.aload_n 0, 1) := dk_0 a_Mo_find_20 (dko_42 _)
theorem d_Mo_find_21 : decode b_Mo_find 21 = .ok (.getfield 95, 3) := dk_U2 a_Mo_find_21 (dko_180 _) rfl
theorem d_Mo_find_24 : decode b_Mo_find 24 = .ok (.iload_n 3, 1) := dk_0 a_Mo_find_24 (dko_29 _)
theorem d_Mo_find_25 : decode b_Mo_find 25 = .ok (.iaload, 1) := dk_0 a_Mo_find_25 (dko_46 _)
theorem d_Mo_find_26 : decode b_Mo_find 26 = .ok (.if_icmp .ge 34, 3) := dk_S2 a_Mo_find_26 (dko_162 _) (by decide +kernel)
theorem d_Mo_find_29 : decode b_Mo_find 29 = .ok (.aload_n 0, 1) := dk_0 a_Mo_find_29 (dko_42 _)
theorem d_Mo_find_30 : decode b_Mo_find 30 = .ok (.dup, 1) := dk_0 a_Mo_find_30 (dko_89 _)
theorem d_Mo_find_31 : decode b_Mo_find 31 = .ok (.getfield 373, 3) := dk_U2 a_Mo_find_31 (dko_180 _) rfl
theorem d_Mo_find_34 : decode b_Mo_find 34 = .ok (.lconst 1, 1) := dk_0 a_Mo_find_34 (dko_10 _)
theorem d_Mo_find_35 : decode b_Mo_find 35 = .ok (.aload_n 0, 1) := dk_0 a_Mo_find_35 (dko_42 _)
theorem d_Mo_find_36 : decode b_Mo_find 36 = .ok (.getfield 98, 3) := dk_U2 a_Mo_find_36 (dko_180 _) rfl
theorem d_Mo_find_39 : decode b_Mo_find 39 = .ok (.bipush 24, 2) := dk_S1 a_Mo_find_39 (dko_16 _) (by decide +kernel)
theorem d_Mo_find_41 : decode b_Mo_find 41 = .ok (.iload_n 3, 1) := dk_0 a_Mo_find_41 (dko_29 _)
theorem d_Mo_find_42 : decode b_Mo_find 42 = .ok (.imul, 1) := dk_0 a_Mo_find_42 (dko_104 _)
theorem d_Mo_find_43 : decode b_Mo_find 43 = .ok (.iload 4, 2) := dk_U1 a_Mo_find_43 (dko_21 _) rfl
theorem d_Mo_find_45 : decode b_Mo_find 45 = .ok (.iadd, 1) := dk_0 a_Mo_find_45 (dko_96 _)
theorem d_Mo_find_46 : decode b_Mo_find 46 = .ok (.iaload, 1) := dk_0 a_Mo_find_46 (dko_46 _)
theorem d_Mo_find_47 : decode b_Mo_find 47 = .ok (.iconst 2, 1) := dk_0 a_Mo_find_47 (dko_5 _)
theorem d_Mo_find_48 : decode b_Mo_find 48 = .ok (.idiv, 1) := dk_0 a_Mo_find_48 (dko_108 _)
theorem d_Mo_find_49 : decode b_Mo_find 49 = .ok (.lshl, 1) := dk_0 a_Mo_find_49 (dko_121 _)
theorem d_Mo_find_50 : decode b_Mo_find 50 = .ok (.lor, 1) := dk_0 a_Mo_find_50 (dko_129 _)
theorem d_Mo_find_51 : decode b_Mo_find 51 = .ok (.putfield 373, 3) := dk_U2 a_Mo_find_51 (dko_181 _) rfl
theorem d_Mo_find_54 : decode b_Mo_find 54 = .ok (.iinc 4 1, 3) := dk_US a_Mo_find_54 (dko_132 _) (by decide +kernel)
theorem d_Mo_find_57 : decode b_Mo_find 57 = .ok (.goto (-39), 3) := dk_S2 a_Mo_find_57 (dko_167 _) (by decide +kernel)
theorem d_Mo_find_60 : decode b_Mo_find 60 = .ok (.iinc 3 1, 3) := dk_US a_Mo_find_60 (dko_132 _) (by decide +kernel)
theorem d_Mo_find_63 : decode b_Mo_find 63 = .ok (.goto (-56), 3) := dk_S2 a_Mo_find_63 (dko_167 _) (by decide +kernel)
theorem d_Mo_find_66 : decode b_Mo_find 66 = .ok (.aload_n 0, 1) := dk_0 a_Mo_find_66 (dko_42 _)
theorem d_Mo_find_67 : decode b_Mo_find 67 = .ok (.iload_n 2, 1) := dk_0 a_Mo_find_67 (dko_28 _)
theorem d_Mo_find_68 : decode b_Mo_find 68 = .ok (.invokevirtual 388, 3) := dk_U2 a_Mo_find_68 (dko_182 _) rfl
theorem d_Mo_find_71 : decode b_Mo_find 71 = .ok (.aload_n 0, 1) := dk_0 a_Mo_find_71 (dko_42 _)
theorem d_Mo_find_72 : decode b_Mo_find 72 = .ok (.iconst 0, 1) := dk_0 a_Mo_find_72 (dko_3 _)
theorem d_Mo_find_73 : decode b_Mo_find 73 = .ok (.putfield 391, 3) := dk_U2 a_Mo_find_73 (dko_181 _) rfl
theorem d_Mo_find_76 : decode b_Mo_find 76 = .ok (.iconst 0, 1) := dk_0 a_Mo_find_76 (dko_3 _)
theorem d_Mo_find_77 : decode b_Mo_find 77 = .ok (.istore_n 3, 1) := dk_0 a_Mo_find_77 (dko_62 _)
theorem d_Mo_find_78 : decode b_Mo_find 78 = .ok (.iload_n 3, 1) := dk_0 a_Mo_find_78 (dko_29 _)
theorem d_Mo_find_79 : decode b_Mo_find 79 = .ok (.bipush 20, 2) := dk_S1 a_Mo_find_79 (dko_16 _) (by decide +kernel)
theorem d_Mo_find_81 : decode b_Mo_find 81 = .ok (.if_icmp .ge 16, 3) := dk_S2 a_Mo_find_81 (dko_162 _) (by decide +kernel)
theorem d_Mo_find_84 : decode b_Mo_find 84 = .ok (.aload_n 0, 1) := dk_0 a_Mo_find_84 (dko_42 _)
theorem d_Mo_find_85 : decode b_Mo_find 85 = .ok (.getfield 116, 3) := dk_U2 a_Mo_find_85 (dko_180 _) rfl
theorem d_Mo_find_88 : decode b_Mo_find 88 = .ok (.iload_n 3, 1) := dk_0 a_Mo_find_88 (dko_29 _)
theorem d_Mo_find_89 : decode b_Mo_find 89 = .ok (.iconst (-1), 1) := dk_0 a_Mo_find_89 (dko_2 _)
theorem d_Mo_find_90 : decode b_Mo_find 90 = .ok (.iastore, 1) := dk_0 a_Mo_find_90 (dko_79 _)
theorem d_Mo_find_91 : decode b_Mo_find 91 = .ok (.iinc 3 1, 3) := dk_US a_Mo_find_91 (dko_132 _) (by decide +kernel)
theorem d_Mo_find_94 : decode b_Mo_find 94 = .ok (.goto (-16), 3) := dk_S2 a_Mo_find_94 (dko_167 _) (by decide +kernel)
theorem d_Mo_find_97 : decode b_Mo_find 97 = .ok (.iconst (-1), 1) := dk_0 a_Mo_find_97 (dko_2 _)
theorem d_Mo_find_98 : decode b_Mo_find 98 = .ok (.istore_n 3, 1) := dk_0 a_Mo_find_98 (dko_62 _)
theorem d_Mo_find_99 : decode b_Mo_find 99 = .ok (.iconst 0, 1) := dk_0 a_Mo_find_99 (dko_3 _)
theorem d_Mo_find_100 : decode b_Mo_find 100 = .ok (.istore 4, 2) := dk_U1 a_Mo_find_100 (dko_54 _) rfl
theorem d_Mo_find_102 : decode b_Mo_find 102 = .ok (.iload 4, 2) := dk_U1 a_Mo_find_102 (dko_21 _) rfl
theorem d_Mo_find_104 : decode b_Mo_find 104 = .ok (.iconst 2, 1) := dk_0 a_Mo_find_104 (dko_5 _)
theorem d_Mo_find_105 : decode b_Mo_find 105 = .ok (.aload_n 0, 1) := dk_0 a_Mo_find_105 (dko_42 _)
theorem d_Mo_find_106 : decode b_Mo_find 106 = .ok (.getfield 281, 3) := dk_U2 a_Mo_find_106 (dko_180 _) rfl
theorem d_Mo_find_109 : decode b_Mo_find 109 = .ok (.imul, 1) := dk_0 a_Mo_find_109 (dko_104 _)
theorem d_Mo_find_110 : decode b_Mo_find 110 = .ok (.if_icmp .ge 99, 3) := dk_S2 a_Mo_find_110 (dko_162 _) (by decide +kernel)
theorem d_Mo_find_113 : decode b_Mo_find 113 = .ok (.aload_n 0, 1) := dk_0 a_Mo_find_113 (dko_42 _)
theorem d_Mo_find_114 : decode b_Mo_find 114 = .ok (.getfield 49, 3) := dk_U2 a_Mo_find_114 (dko_180 _) rfl
theorem d_Mo_find_117 : decode b_Mo_find 117 = .ok (.iload 4, 2) := dk_U1 a_Mo_find_117 (dko_21 _) rfl
theorem d_Mo_find_119 : decode b_Mo_find 119 = .ok (.iaload, 1) := dk_0 a_Mo_find_119 (dko_46 _)
theorem d_Mo_find_120 : decode b_Mo_find 120 = .ok (.iload_n 1, 1) := dk_0 a_Mo_find_120 (dko_27 _)
theorem d_Mo_find_121 : decode b_Mo_find 121 = .ok (.if_icmp .ne 18, 3) := dk_S2 a_Mo_find_121 (dko_160 _) (by decide +kernel)
theorem d_Mo_find_124 : decode b_Mo_find 124 = .ok (.aload_n 0, 1) := dk_0 a_Mo_find_124 (dko_42 _)
theorem d_Mo_find_125 : decode b_Mo_find 125 = .ok (.getfield 104, 3) := dk_U2 a_Mo_find_125 (dko_180 _) rfl
theorem d_Mo_find_128 : decode b_Mo_find 128 = .ok (.iload 4, 2) := dk_U1 a_Mo_find_128 (dko_21 _) rfl
theorem d_Mo_find_130 : decode b_Mo_find 130 = .ok (.iaload, 1) := dk_0 a_Mo_find_130 (dko_46 _)
theorem d_Mo_find_131 : decode b_Mo_find 131 = .ok (.iconst (-1), 1) := dk_0 a_Mo_find_131 (dko_2 _)
theorem d_Mo_find_132 : decode b_Mo_find 132 = .ok (.if_icmp .eq 7, 3) := dk_S2 a_Mo_find_132 (dko_159 _) (by decide +kernel)
theorem d_Mo_find_135 : decode b_Mo_find 135 = .ok (.iconst 1, 1) := dk_0 a_Mo_find_135 (dko_4 _)
theorem d_Mo_find_136 : decode b_Mo_find 136 = .ok (.goto 4, 3) := dk_S2 a_Mo_find_136 (dko_167 _) (by decide +kernel)
theorem d_Mo_find_139 : decode b_Mo_find 139 = .ok (.iconst 0, 1) := dk_0 a_Mo_find_139 (dko_3 _)
theorem d_Mo_find_140 : decode b_Mo_find 140 = .ok (.istore 5, 2) := dk_U1 a_Mo_find_140 (dko_54 _) rfl
theorem d_Mo_find_142 : decode b_Mo_find 142 = .ok (.iload 5, 2) := dk_U1 a_Mo_find_142 (dko_21 _) rfl
theorem d_Mo_find_144 : decode b_Mo_find 144 = .ok (.ifCond .eq 59, 3) := dk_S2 a_Mo_find_144 (dko_153 _) (by decide +kernel)
theorem d_Mo_find_147 : decode b_Mo_find 147 = .ok (.iload_n 3, 1) := dk_0 a_Mo_find_147 (dko_29 _)
theorem d_Mo_find_148 : decode b_Mo_find 148 = .ok (.iconst (-1), 1) := dk_0 a_Mo_find_148 (dko_2 _)
theorem d_Mo_find_149 : decode b_Mo_find 149 = .ok (.if_icmp .eq 51, 3) := dk_S2 a_Mo_find_149 (dko_159 _) (by decide +kernel)
theorem d_Mo_find_152 : decode b_Mo_find 152 = .ok (.aload_n 0, 1) := dk_0 a_Mo_find_152 (dko_42 _)
theorem d_Mo_find_153 : decode b_Mo_find 153 = .ok (.getfield 104, 3) := dk_U2 a_Mo_find_153 (dko_180 _) rfl
theorem d_Mo_find_156 : decode b_Mo_find 156 = .ok (.iload 4, 2) := dk_U1 a_Mo_find_156 (dko_21 _) rfl
theorem d_Mo_find_158 : decode b_Mo_find 158 = .ok (.iaload, 1) := dk_0 a_Mo_find_158 (dko_46 _)
theorem d_Mo_find_159 : decode b_Mo_find 159 = .ok (.aload_n 0, 1) := dk_0 a_Mo_find_159 (dko_42 _)
theorem d_Mo_find_160 : decode b_Mo_find 160 = .ok (.getfield 104, 3) := dk_U2 a_Mo_find_160 (dko_180 _) rfl
theorem d_Mo_find_163 : decode b_Mo_find 163 = .ok (.iload_n 3, 1) := dk_0 a_Mo_find_163 (dko_29 _)
theorem d_Mo_find_164 : decode b_Mo_find 164 = .ok (.iaload, 1) := dk_0 a_Mo_find_164 (dko_46 _)
theorem d_Mo_find_165 : decode b_Mo_find 165 = .ok (.if_icmp .lt 35, 3) := dk_S2 a_Mo_find_165 (dko_161 _) (by decide +kernel)
theorem d_Mo_find_168 : decode b_Mo_find 168 = .ok (.aload_n 0, 1) := dk_0 a_Mo_find_168 (dko_42 _)
theorem d_Mo_find_169 : decode b_Mo_find 169 = .ok (.getfield 104, 3) := dk_U2 a_Mo_find_169 (dko_180 _) rfl
theorem d_Mo_find_172 : decode b_Mo_find 172 = .ok (.iload 4, 2) := dk_U1 a_Mo_find_172 (dko_21 _) rfl
theorem d_Mo_find_174 : decode b_Mo_find 174 = .ok (.iaload, 1) := dk_0 a_Mo_find_174 (dko_46 _)
theorem d_Mo_find_175 : decode b_Mo_find 175 = .ok (.aload_n 0, 1) := dk_0 a_Mo_find_175 (dko_42 _)
theorem d_Mo_find_176 : decode b_Mo_find 176 = .ok (.getfield 104, 3) := dk_U2 a_Mo_find_176 (dko_180 _) rfl
theorem d_Mo_find_179 : decode b_Mo_find 179 = .ok (.iload_n 3, 1) := dk_0 a_Mo_find_179 (dko_29 _)
theorem d_Mo_find_180 : decode b_Mo_find 180 = .ok (.iaload, 1) := dk_0 a_Mo_find_180 (dko_46 _)
theorem d_Mo_find_181 : decode b_Mo_find 181 = .ok (.if_icmp .ne 22, 3) := dk_S2 a_Mo_find_181 (dko_160 _) (by decide +kernel)
theorem d_Mo_find_184 : decode b_Mo_find 184 = .ok (.aload_n 0, 1) := dk_0 a_Mo_find_184 (dko_42 _)
theorem d_Mo_find_185 : decode b_Mo_find 185 = .ok (.getfield 107, 3) := dk_U2 a_Mo_find_185 (dko_180 _) rfl
theorem d_Mo_find_188 : decode b_Mo_find 188 = .ok (.iload 4, 2) := dk_U1 a_Mo_find_188 (dko_21 _) rfl
theorem d_Mo_find_190 : decode b_Mo_find 190 = .ok (.iaload, 1) := dk_0 a_Mo_find_190 (dko_46 _)
theorem d_Mo_find_191 : decode b_Mo_find 191 = .ok (.aload_n 0, 1) := dk_0 a_Mo_find_191 (dko_42 _)
theorem d_Mo_find_192 : decode b_Mo_find 192 = .ok (.getfield 107, 3) := dk_U2 a_Mo_find_192 (dko_180 _) rfl
theorem d_Mo_find_195 : decode b_Mo_find 195 = .ok (.iload_n 3, 1) := dk_0 a_Mo_find_195 (dko_29 _)
theorem d_Mo_find_196 : decode b_Mo_find 196 = .ok (.iaload, 1) := dk_0 a_Mo_find_196 (dko_46 _)
theorem d_Mo_find_197 : decode b_Mo_find 197 = .ok (.if_icmp .ge 6, 3) := dk_S2 a_Mo_find_197 (dko_162 _) (by decide +kernel)
theorem d_Mo_find_200 : decode b_Mo_find 200 = .ok (.iload 4, 2) := dk_U1 a_Mo_find_200 (dko_21 _) rfl
theorem d_Mo_find_202 : decode b_Mo_find 202 = .ok (.istore_n 3, 1) := dk_0 a_Mo_find_202 (dko_62 _)
theorem d_Mo_find_203 : decode b_Mo_find 203 = .ok (.iinc 4 1, 3) := dk_US a_Mo_find_203 (dko_132 _) (by decide +kernel)
theorem d_Mo_find_206 : decode b_Mo_find 206 = .ok (.goto (-104), 3) := dk_S2 a_Mo_find_206 (dko_167 _) (by decide +kernel)
theorem d_Mo_find_209 : decode b_Mo_find 209 = .ok (.iload_n 3, 1) := dk_0 a_Mo_find_209 (dko_29 _)
theorem d_Mo_find_210 : decode b_Mo_find 210 = .ok (.iconst (-1), 1) := dk_0 a_Mo_find_210 (dko_2 _)
theorem d_Mo_find_211 : decode b_Mo_find 211 = .ok (.if_icmp .eq 154, 3) := dk_S2 a_Mo_find_211 (dko_159 _) (by decide +kernel)
theorem d_Mo_find_214 : decode b_Mo_find 214 = .ok (.aload_n 0, 1) := dk_0 a_Mo_find_214 (dko_42 _)
theorem d_Mo_find_215 : decode b_Mo_find 215 = .ok (.getfield 113, 3) := dk_U2 a_Mo_find_215 (dko_180 _) rfl
theorem d_Mo_find_218 : decode b_Mo_find 218 = .ok (.aload_n 0, 1) := dk_0 a_Mo_find_218 (dko_42 _)
theorem d_Mo_find_219 : decode b_Mo_find 219 = .ok (.getfield 391, 3) := dk_U2 a_Mo_find_219 (dko_180 _) rfl
theorem d_Mo_find_222 : decode b_Mo_find 222 = .ok (.iload_n 3, 1) := dk_0 a_Mo_find_222 (dko_29 _)
theorem d_Mo_find_223 : decode b_Mo_find 223 = .ok (.iastore, 1) := dk_0 a_Mo_find_223 (dko_79 _)
theorem d_Mo_find_224 : decode b_Mo_find 224 = .ok (.aload_n 0, 1) := dk_0 a_Mo_find_224 (dko_42 _)
theorem d_Mo_find_225 : decode b_Mo_find 225 = .ok (.dup, 1) := dk_0 a_Mo_find_225 (dko_89 _)
theorem d_Mo_find_226 : decode b_Mo_find 226 = .ok (.getfield 391, 3) := dk_U2 a_Mo_find_226 (dko_180 _) rfl
theorem d_Mo_find_229 : decode b_Mo_find 229 = .ok (.iconst 1, 1) := dk_0 a_Mo_find_229 (dko_4 _)
theorem d_Mo_find_230 : decode b_Mo_find 230 = .ok (.iadd, 1) := dk_0 a_Mo_find_230 (dko_96 _)
theorem d_Mo_find_231 : decode b_Mo_find 231 = .ok (.putfield 391, 3) := dk_U2 a_Mo_find_231 (dko_181 _) rfl
theorem d_Mo_find_234 : decode b_Mo_find 234 = .ok (.aload_n 0, 1) := dk_0 a_Mo_find_234 (dko_42 _)
theorem d_Mo_find_235 : decode b_Mo_find 235 = .ok (.getfield 104, 3) := dk_U2 a_Mo_find_235 (dko_180 _) rfl
theorem d_Mo_find_238 : decode b_Mo_find 238 = .ok (.iload_n 3, 1) := dk_0 a_Mo_find_238 (dko_29 _)
theorem d_Mo_find_239 : decode b_Mo_find 239 = .ok (.iaload, 1) := dk_0 a_Mo_find_239 (dko_46 _)
theorem d_Mo_find_240 : decode b_Mo_find 240 = .ok (.aload_n 0, 1) := dk_0 a_Mo_find_240 (dko_42 _)
theorem d_Mo_find_241 : decode b_Mo_find 241 = .ok (.getfield 46, 3) := dk_U2 a_Mo_find_241 (dko_180 _) rfl
theorem d_Mo_find_244 : decode b_Mo_find 244 = .ok (.iload_n 3, 1) := dk_0 a_Mo_find_244 (dko_29 _)
theorem d_Mo_find_245 : decode b_Mo_find 245 = .ok (.iconst 2, 1) := dk_0 a_Mo_find_245 (dko_5 _)
theorem d_Mo_find_246 : decode b_Mo_find 246 = .ok (.idiv, 1) := dk_0 a_Mo_find_246 (dko_108 _)
theorem d_Mo_find_247 : decode b_Mo_find 247 = .ok (.iaload, 1) := dk_0 a_Mo_find_247 (dko_46 _)
theorem d_Mo_find_248 : decode b_Mo_find 248 = .ok (.isub, 1) := dk_0 a_Mo_find_248 (dko_100 _)
theorem d_Mo_find_249 : decode b_Mo_find 249 = .ok (.istore 4, 2) := dk_U1 a_Mo_find_249 (dko_54 _) rfl
theorem d_Mo_find_251 : decode b_Mo_find 251 = .ok (.iconst (-1), 1) := dk_0 a_Mo_find_251 (dko_2 _)
theorem d_Mo_find_252 : decode b_Mo_find 252 = .ok (.istore 5, 2) := dk_U1 a_Mo_find_252 (dko_54 _) rfl
theorem d_Mo_find_254 : decode b_Mo_find 254 = .ok (.iconst 0, 1) := dk_0 a_Mo_find_254 (dko_3 _)
theorem d_Mo_find_255 : decode b_Mo_find 255 = .ok (.istore 6, 2) := dk_U1 a_Mo_find_255 (dko_54 _) rfl
theorem d_Mo_find_257 : decode b_Mo_find 257 = .ok (.iload 6, 2) := dk_U1 a_Mo_find_257 (dko_21 _) rfl
theorem d_Mo_find_259 : decode b_Mo_find 259 = .ok (.iconst 2, 1) := dk_0 a_Mo_find_259 (dko_5 _)
theorem d_Mo_find_260 : decode b_Mo_find 260 = .ok (.aload_n 0, 1) := dk_0 a_Mo_find_260 (dko_42 _)
theorem d_Mo_find_261 : decode b_Mo_find 261 = .ok (.getfield 281, 3) := dk_U2 a_Mo_find_261 (dko_180 _) rfl
theorem d_Mo_find_264 : decode b_Mo_find 264 = .ok (.imul, 1) := dk_0 a_Mo_find_264 (dko_104 _)
theorem d_Mo_find_265 : decode b_Mo_find 265 = .ok (.if_icmp .ge 67, 3) := dk_S2 a_Mo_find_265 (dko_162 _) (by decide +kernel)
theorem d_Mo_find_268 : decode b_Mo_find 268 = .ok (.iload 5, 2) := dk_U1 a_Mo_find_268 (dko_21 _) rfl
theorem d_Mo_find_270 : decode b_Mo_find 270 = .ok (.iconst (-1), 1) := dk_0 a_Mo_find_270 (dko_2 _)
theorem d_Mo_find_271 : decode b_Mo_find 271 = .ok (.if_icmp .ne 61, 3) := dk_S2 a_Mo_find_271 (dko_160 _) (by decide +kernel)
theorem d_Mo_find_274 : decode b_Mo_find 274 = .ok (.iload 4, 2) := dk_U1 a_Mo_find_274 (dko_21 _) rfl
theorem d_Mo_find_276 : decode b_Mo_find 276 = .ok (.ifCond .le 56, 3) := dk_S2 a_Mo_find_276 (dko_158 _) (by decide +kernel)
theorem d_Mo_find_279 : decode b_Mo_find 279 = .ok (.aload_n 0, 1) := dk_0 a_Mo_find_279 (dko_42 _)
theorem d_Mo_find_280 : decode b_Mo_find 280 = .ok (.getfield 104, 3) := dk_U2 a_Mo_find_280 (dko_180 _) rfl
theorem d_Mo_find_283 : decode b_Mo_find 283 = .ok (.iload 6, 2) := dk_U1 a_Mo_find_283 (dko_21 _) rfl
theorem d_Mo_find_285 : decode b_Mo_find 285 = .ok (.iaload, 1) := dk_0 a_Mo_find_285 (dko_46 _)
theorem d_Mo_find_286 : decode b_Mo_find 286 = .ok (.iload 4, 2) := dk_U1 a_Mo_find_286 (dko_21 _) rfl
theorem d_Mo_find_288 : decode b_Mo_find 288 = .ok (.if_icmp .ne 38, 3) := dk_S2 a_Mo_find_288 (dko_160 _) (by decide +kernel)
theorem d_Mo_find_291 : decode b_Mo_find 291 = .ok (.aload_n 0, 1) := dk_0 a_Mo_find_291 (dko_42 _)
theorem d_Mo_find_292 : decode b_Mo_find 292 = .ok (.getfield 107, 3) := dk_U2 a_Mo_find_292 (dko_180 _) rfl
theorem d_Mo_find_295 : decode b_Mo_find 295 = .ok (.iload 6, 2) := dk_U1 a_Mo_find_295 (dko_21 _) rfl
theorem d_Mo_find_297 : decode b_Mo_find 297 = .ok (.iaload, 1) := dk_0 a_Mo_find_297 (dko_46 _)
theorem d_Mo_find_298 : decode b_Mo_find 298 = .ok (.aload_n 0, 1) := dk_0 a_Mo_find_298 (dko_42 _)
theorem d_Mo_find_299 : decode b_Mo_find 299 = .ok (.getfield 107, 3) := dk_U2 a_Mo_find_299 (dko_180 _) rfl
theorem d_Mo_find_302 : decode b_Mo_find 302 = .ok (.iload_n 3, 1) := dk_0 a_Mo_find_302 (dko_29 _)
theorem d_Mo_find_303 : decode b_Mo_find 303 = .ok (.iaload, 1) := dk_0 a_Mo_find_303 (dko_46 _)
theorem d_Mo_find_304 : decode b_Mo_find 304 = .ok (.iconst 1, 1) := dk_0 a_Mo_find_304 (dko_4 _)
theorem d_Mo_find_305 : decode b_Mo_find 305 = .ok (.isub, 1) := dk_0 a_Mo_find_305 (dko_100 _)
theorem d_Mo_find_306 : decode b_Mo_find 306 = .ok (.if_icmp .ne 20, 3) := dk_S2 a_Mo_find_306 (dko_160 _) (by decide +kernel)
theorem d_Mo_find_309 : decode b_Mo_find 309 = .ok (.aload_n 0, 1) := dk_0 a_Mo_find_309 (dko_42 _)
theorem d_Mo_find_310 : decode b_Mo_find 310 = .ok (.iload_n 3, 1) := dk_0 a_Mo_find_310 (dko_29 _)
theorem d_Mo_find_311 : decode b_Mo_find 311 = .ok (.iconst 1, 1) := dk_0 a_Mo_find_311 (dko_4 _)
theorem d_Mo_find_312 : decode b_Mo_find 312 = .ok (.ixor, 1) := dk_0 a_Mo_find_312 (dko_130 _)
theorem d_Mo_find_313 : decode b_Mo_find 313 = .ok (.iload 6, 2) := dk_U1 a_Mo_find_313 (dko_21 _) rfl
theorem d_Mo_find_315 : decode b_Mo_find 315 = .ok (.invokevirtual 384, 3) := dk_U2 a_Mo_find_315 (dko_182 _) rfl
theorem d_Mo_find_318 : decode b_Mo_find 318 = .ok (.iconst (-1), 1) := dk_0 a_Mo_find_318 (dko_2 _)
theorem d_Mo_find_319 : decode b_Mo_find 319 = .ok (.if_icmp .eq 7, 3) := dk_S2 a_Mo_find_319 (dko_159 _) (by decide +kernel)
theorem d_Mo_find_322 : decode b_Mo_find 322 = .ok (.iload 6, 2) := dk_U1 a_Mo_find_322 (dko_21 _) rfl
theorem d_Mo_find_324 : decode b_Mo_find 324 = .ok (.istore 5, 2) := dk_U1 a_Mo_find_324 (dko_54 _) rfl
theorem d_Mo_find_326 : decode b_Mo_find 326 = .ok (.iinc 6 1, 3) := dk_US a_Mo_find_326 (dko_132 _) (by decide +kernel)
theorem d_Mo_find_329 : decode b_Mo_find 329 = .ok (.goto (-72), 3) := dk_S2 a_Mo_find_329 (dko_167 _) (by decide +kernel)
theorem d_Mo_find_332 : decode b_Mo_find 332 = .ok (.iload 5, 2) := dk_U1 a_Mo_find_332 (dko_21 _) rfl
theorem d_Mo_find_334 : decode b_Mo_find 334 = .ok (.iconst (-1), 1) := dk_0 a_Mo_find_334 (dko_2 _)
theorem d_Mo_find_335 : decode b_Mo_find 335 = .ok (.if_icmp .eq 24, 3) := dk_S2 a_Mo_find_335 (dko_159 _) (by decide +kernel)
theorem d_Mo_find_338 : decode b_Mo_find 338 = .ok (.aload_n 0, 1) := dk_0 a_Mo_find_338 (dko_42 _)
theorem d_Mo_find_339 : decode b_Mo_find 339 = .ok (.getfield 116, 3) := dk_U2 a_Mo_find_339 (dko_180 _) rfl
theorem d_Mo_find_342 : decode b_Mo_find 342 = .ok (.aload_n 0, 1) := dk_0 a_Mo_find_342 (dko_42 _)
theorem d_Mo_find_343 : decode b_Mo_find 343 = .ok (.getfield 49, 3) := dk_U2 a_Mo_find_343 (dko_180 _) rfl
theorem d_Mo_find_346 : decode b_Mo_find 346 = .ok (.iload 5, 2) := dk_U1 a_Mo_find_346 (dko_21 _) rfl
theorem d_Mo_find_348 : decode b_Mo_find 348 = .ok (.iaload, 1) := dk_0 a_Mo_find_348 (dko_46 _)
theorem d_Mo_find_349 : decode b_Mo_find 349 = .ok (.aload_n 0, 1) := dk_0 a_Mo_find_349 (dko_42 _)
theorem d_Mo_find_350 : decode b_Mo_find 350 = .ok (.iload_n 3, 1) := dk_0 a_Mo_find_350 (dko_29 _)
theorem d_Mo_find_351 : decode b_Mo_find 351 = .ok (.iconst 1, 1) := dk_0 a_Mo_find_351 (dko_4 _)
theorem d_Mo_find_352 : decode b_Mo_find 352 = .ok (.ixor, 1) := dk_0 a_Mo_find_352 (dko_130 _)
theorem d_Mo_find_353 : decode b_Mo_find 353 = .ok (.iload 5, 2) := dk_U1 a_Mo_find_353 (dko_21 _) rfl
theorem d_Mo_find_355 : decode b_Mo_find 355 = .ok (.invokevirtual 384, 3) := dk_U2 a_Mo_find_355 (dko_182 _) rfl
theorem d_Mo_find_358 : decode b_Mo_find 358 = .ok (.iastore, 1) := dk_0 a_Mo_find_358 (dko_79 _)
theorem d_Mo_find_359 : decode b_Mo_find 359 = .ok (.iload 5, 2) := dk_U1 a_Mo_find_359 (dko_21 _) rfl
theorem d_Mo_find_361 : decode b_Mo_find 361 = .ok (.istore_n 3, 1) := dk_0 a_Mo_find_361 (dko_62 _)
theorem d_Mo_find_362 : decode b_Mo_find 362 = .ok (.goto (-153), 3) := dk_S2 a_Mo_find_362 (dko_167 _) (by decide +kernel)
theorem d_Mo_find_365 : decode b_Mo_find 365 = .ok (.aload_n 0, 1) := dk_0 a_Mo_find_365 (dko_42 _)
theorem d_Mo_find_366 : decode b_Mo_find 366 = .ok (.getfield 391, 3) := dk_U2 a_Mo_find_366 (dko_180 _) rfl
theorem d_Mo_find_369 : decode b_Mo_find 369 = .ok (.ifCond .le 7, 3) := dk_S2 a_Mo_find_369 (dko_158 _) (by decide +kernel)
theorem d_Mo_find_372 : decode b_Mo_find 372 = .ok (.iconst 1, 1) := dk_0 a_Mo_find_372 (dko_4 _)
theorem d_Mo_find_373 : decode b_Mo_find 373 = .ok (.goto 4, 3) := dk_S2 a_Mo_find_373 (dko_167 _) (by decide +kernel)
theorem d_Mo_find_376 : decode b_Mo_find 376 = .ok (.iconst 0, 1) := dk_0 a_Mo_find_376 (dko_3 _)
theorem d_Mo_find_377 : decode b_Mo_find 377 = .ok (.ireturn, 1) := dk_0 a_Mo_find_377 (dko_172 _)
set_option maxHeartbeats 4000000 in
set_option maxRecDepth 100000 in
theorem ok_Mo_find (pc : Nat) : OpS mt mi_Mo_find pc (cs_Mo_find pc) := (os_n (os_n (os_n (os_n (os_n (os_n (os_n (os_l (so_aload_n d_Mo_find_0 rfl)) (os_n (os_l (so_lconst d_Mo_find_1 (by decide))) (os_l (so_putJ (C := R_Mo) (T := F_Mo) (N := 87) (j := 40) in_Mo t_Mo_ok n_Mo rfl (by decide) mw_1834 rfl (by decide +kernel) d_Mo_find_2)))) (os_n (os_l (so_iconst d_Mo_find_5 (by decide))) (os_n (os_l (so_istore_n d_Mo_find_6 rfl (by decide))) (os_l (so_iload_n d_Mo_find_7 rfl))))) (os_n (os_n (os_l (so_aload_n d_Mo_find_8 rfl)) (os_n (os_l (so_get (C := R_Mo) (T := F_Mo) (N := 87) (j := 26) in_Mo rfl (by decide) mw_1820 d_Mo_find_9)) (os_l (so_icge d_Mo_find_12 (by decide))))) (os_n (os_n (os_l (so_iconst d_Mo_find_15 (by decide))) (os_l (so_istore d_Mo_find_16 (by decide)))) (os_n (os_l (so_iload d_Mo_find_18)) (os_l (so_aload_n d_Mo_find_20 rfl)))))) (os_n (os_n (os_n (os_l (so_get (C := R_Mo) (T := F_Mo) (N := 87) (j := 31) in_Mo rfl (by decide) mw_1825 d_Mo_find_21)) (os_n (os_l (so_iload_n d_Mo_find_24 rfl)) (os_l (so_iaload d_Mo_find_25)))) (os_n (os_l (so_icge d_Mo_find_26 (by decide))) (os_n (os_l (so_aload_n d_Mo_find_29 rfl)) (os_l (so_dup d_Mo_find_30))))) (os_n (os_n (os_l (so_get (C := R_Mo) (T := F_Mo) (N := 87) (j := 40) in_Mo rfl (by decide) mw_1834 d_Mo_find_31)) (os_n (os_l (so_lconst d_Mo_find_34 (by decide))) (os_l (so_aload_n d_Mo_find_35 rfl)))) (os_n (os_n (os_l (so_get (C := R_Mo) (T := F_Mo) (N := 87) (j := 32) in_Mo rfl (by decide) mw_1826 d_Mo_find_36)) (os_l (so_bipush d_Mo_find_39 (by decide)))) (os_n (os_l (so_iload_n d_Mo_find_41 rfl)) (os_l (so_imul d_Mo_find_42))))))) (os_n (os_n (os_n (os_n (os_l (so_iload d_Mo_find_43)) (os_n (os_l (so_iadd d_Mo_find_45)) (os_l (so_iaload d_Mo_find_46)))) (os_n (os_l (so_iconst d_Mo_find_47 (by decide))) (os_n (os_l (so_idiv d_Mo_find_48)) (os_l (so_lshl d_Mo_find_49))))) (os_n (os_n (os_l (so_lor d_Mo_find_50)) (os_n (os_l (so_putJ (C := R_Mo) (T := F_Mo) (N := 87) (j := 40) in_Mo t_Mo_ok n_Mo rfl (by decide) mw_1834 rfl (by decide +kernel) d_Mo_find_51)) (os_l (so_iinc d_Mo_find_54 (by decide) (by decide))))) (os_n (os_n (os_l (so_goto d_Mo_find_57 (by decide))) (os_l (so_iinc d_Mo_find_60 (by decide) (by decide)))) (os_n (os_l (so_goto d_Mo_find_63 (by decide))) (os_l (so_aload_n d_Mo_find_66 rfl)))))) (os_n (os_n (os_n (os_l (so_iload_n d_Mo_find_67 rfl)) (os_n (os_l (so_callV (iv := mi_Mo_measure) rfl rfl rfl mw_2506 mw_2508 sl_169 mw_18 mw_2509 ⟨by decide +kernel, by decide +kernel, by decide +kernel⟩ (by decide) d_Mo_find_68)) (os_l (so_aload_n d_Mo_find_71 rfl)))) (os_n (os_n (os_l (so_iconst d_Mo_find_72 (by decide))) (os_l (so_putI (C := R_Mo) (T := F_Mo) (N := 87) (j := 39) in_Mo t_Mo_ok n_Mo rfl (by decide) mw_1833 rfl (by decide +kernel) d_Mo_find_73))) (os_n (os_l (so_iconst d_Mo_find_76 (by decide))) (os_l (so_istore_n d_Mo_find_77 rfl (by decide)))))) (os_n (os_n (os_l (so_iload_n d_Mo_find_78 rfl)) (os_n (os_l (so_bipush d_Mo_find_79 (by decide))) (os_l (so_icge d_Mo_find_81 (by decide))))) (os_n (os_n (os_l (so_aload_n d_Mo_find_84 rfl)) (os_l (so_get (C := R_Mo) (T := F_Mo) (N := 87) (j := 38) in_Mo rfl (by decide) mw_1832 d_Mo_find_85))) (os_n (os_l (so_iload_n d_Mo_find_88 rfl)) (os_l (so_iconst d_Mo_find_89 (by decide))))))))) (os_n (os_n (os_n (os_n (os_n (os_l (so_iastore d_Mo_find_90)) (os_n (os_l (so_iinc d_Mo_find_91 (by decide) (by decide))) (os_l (so_goto d_Mo_find_94 (by decide))))) (os_n (os_l (so_iconst d_Mo_find_97 (by decide))) (os_n (os_l (so_istore_n d_Mo_find_98 rfl (by decide))) (os_l (so_iconst d_Mo_find_99 (by decide)))))) (os_n (os_n (os_l (so_istore d_Mo_find_100 (by decide))) (os_n (os_l (so_iload d_Mo_find_102)) (os_l (so_iconst d_Mo_find_104 (by decide))))) (os_n (os_n (os_l (so_aload_n d_Mo_find_105 rfl)) (os_l (so_get (C := R_Mo) (T := F_Mo) (N := 87) (j := 11) in_Mo rfl (by decide) mw_1805 d_Mo_find_106))) (os_n (os_l (so_imul d_Mo_find_109)) (os_l (so_icge d_Mo_find_110 (by decide))))))) (os_n (os_n (os_n (os_l (so_aload_n d_Mo_find_113 rfl)) (os_n (os_l (so_get (C := R_Mo) (T := F_Mo) (N := 87) (j := 13) in_Mo rfl (by decide) mw_1807 d_Mo_find_114)) (os_l (so_iload d_Mo_find_117)))) (os_n (os_n (os_l (so_iaload d_Mo_find_119)) (os_l (so_iload_n d_Mo_find_120 rfl))) (os_n (os_l (so_icne d_Mo_find_121 (by decide))) (os_l (so_aload_n d_Mo_find_124 rfl))))) (os_n (os_n (os_l (so_get (C := R_Mo) (T := F_Mo) (N := 87) (j := 34) in_Mo rfl (by decide) mw_1828 d_Mo_find_125)) (os_n (os_l (so_iload d_Mo_find_128)) (os_l (so_iaload d_Mo_find_130)))) (os_n (os_n (os_l (so_iconst d_Mo_find_131 (by decide))) (os_l (so_iceq d_Mo_find_132 (by decide)))) (os_n (os_l (so_iconst d_Mo_find_135 (by decide))) (os_l (so_goto d_Mo_find_136 (by decide)))))))) (os_n (os_n (os_n (os_n (os_l (so_iconst d_Mo_find_139 (by decide))) (os_n (os_l (so_istore d_Mo_find_140 (by decide))) (os_l (so_iload d_Mo_find_142)))) (os_n (os_l (so_ifeq d_Mo_find_144 (by decide))) (os_n (os_l (so_iload_n d_Mo_find_147 rfl)) (os_l (so_iconst d_Mo_find_148 (by decide)))))) (os_n (os_n (os_l (so_iceq d_Mo_find_149 (by decide))) (os_n (os_l (so_aload_n d_Mo_find_152 rfl)) (os_l (so_get (C := R_Mo) (T := F_Mo) (N := 87) (j := 34) in_Mo rfl (by decide) mw_1828 d_Mo_find_153)))) (os_n (os_n (os_l (so_iload d_Mo_find_156)) (os_l (so_iaload d_Mo_find_158))) (os_n (os_l (so_aload_n d_Mo_find_159 rfl)) (os_l (so_get (C := R_Mo) (T := F_Mo) (N := 87) (j := 34) in_Mo rfl (by decide) mw_1828 d_Mo_find_160)))))) (os_n (os_n (os_n (os_l (so_iload_n d_Mo_find_163 rfl)) (os_n (os_l (so_iaload d_Mo_find_164)) (os_l (so_iclt d_Mo_find_165 (by decide))))) (os_n (os_n (os_l (so_aload_n d_Mo_find_168 rfl)) (os_l (so_get (C := R_Mo) (T := F_Mo) (N := 87) (j := 34) in_Mo rfl (by decide) mw_1828 d_Mo_find_169))) (os_n (os_l (so_iload d_Mo_find_172)) (os_l (so_iaload d_Mo_find_174))))) (os_n (os_n (os_l (so_aload_n d_Mo_find_175 rfl)) (os_n (os_l (so_get (C := R_Mo) (T := F_Mo) (N := 87) (j := 34) in_Mo rfl (by decide) mw_1828 d_Mo_find_176)) (os_l (so_iload_n d_Mo_find_179 rfl)))) (os_n (os_n (os_l (so_iaload d_Mo_find_180)) (os_l (so_icne d_Mo_find_181 (by decide)))) (os_n (os_l (so_aload_n d_Mo_find_184 rfl)) (os_l (so_get (C := R_Mo) (T := F_Mo) (N := 87) (j := 35) in_Mo rfl (by decide) mw_1829 d_Mo_find_185))))))))) (os_n (os_n (os_n (os_n (os_n (os_n (os_l (so_iload d_Mo_find_188)) (os_n (os_l (so_iaload d_Mo_find_190)) (os_l (so_aload_n d_Mo_find_191 rfl)))) (os_n (os_l (so_get (C := R_Mo) (T := F_Mo) (N := 87) (j := 35) in_Mo rfl (by decide) mw_1829 d_Mo_find_192)) (os_n (os_l (so_iload_n d_Mo_find_195 rfl)) (os_l (so_iaload d_Mo_find_196))))) (os_n (os_n (os_l (so_icge d_Mo_find_197 (by decide))) (os_n (os_l (so_iload d_Mo_find_200)) (os_l (so_istore_n d_Mo_find_202 rfl (by decide))))) (os_n (os_n (os_l (so_iinc d_Mo_find_203 (by decide) (by decide))) (os_l (so_goto d_Mo_find_206 (by decide)))) (os_n (os_l (so_iload_n d_Mo_find_209 rfl)) (os_l (so_iconst d_Mo_find_210 (by decide))))))) (os_n (os_n (os_n (os_l (so_iceq d_Mo_find_211 (by decide))) (os_n (os_l (so_aload_n d_Mo_find_214 rfl)) (os_l (so_get (C := R_Mo) (T := F_Mo) (N := 87) (j := 37) in_Mo rfl (by decide) mw_1831 d_Mo_find_215)))) (os_n (os_n (os_l (so_aload_n d_Mo_find_218 rfl)) (os_l (so_get (C := R_Mo) (T := F_Mo) (N := 87) (j := 39) in_Mo rfl (by decide) mw_1833 d_Mo_find_219))) (os_n (os_l (so_iload_n d_Mo_find_222 rfl)) (os_l (so_iastore d_Mo_find_223))))) (os_n (os_n (os_l (so_aload_n d_Mo_find_224 rfl)) (os_n (os_l (so_dup d_Mo_find_225)) (os_l (so_get (C := R_Mo) (T := F_Mo) (N := 87) (j := 39) in_Mo rfl (by decide) mw_1833 d_Mo_find_226)))) (os_n (os_n (os_l (so_iconst d_Mo_find_229 (by decide))) (os_l (so_iadd d_Mo_find_230))) (os_n (os_l (so_putI (C := R_Mo) (T := F_Mo) (N := 87) (j := 39) in_Mo t_Mo_ok n_Mo rfl (by decide) mw_1833 rfl (by decide +kernel) d_Mo_find_231)) (os_l (so_aload_n d_Mo_find_234 rfl))))))) (os_n (os_n (os_n (os_n (os_l (so_get (C := R_Mo) (T := F_Mo) (N := 87) (j := 34) in_Mo rfl (by decide) mw_1828 d_Mo_find_235)) (os_n (os_l (so_iload_n d_Mo_find_238 rfl)) (os_l (so_iaload d_Mo_find_239)))) (os_n (os_l (so_aload_n d_Mo_find_240 rfl)) (os_n (os_l (so_get (C := R_Mo) (T := F_Mo) (N := 87) (j := 12) in_Mo rfl (by decide) mw_1806 d_Mo_find_241)) (os_l (so_iload_n d_Mo_find_244 rfl))))) (os_n (os_n (os_l (so_iconst d_Mo_find_245 (by decide))) (os_n (os_l (so_idiv d_Mo_find_246)) (os_l (so_iaload d_Mo_find_247)))) (os_n (os_n (os_l (so_isub d_Mo_find_248)) (os_l (so_istore d_Mo_find_249 (by decide)))) (os_n (os_l (so_iconst d_Mo_find_251 (by decide))) (os_l (so_istore d_Mo_find_252 (by decide))))))) (os_n (os_n (os_n (os_l (so_iconst d_Mo_find_254 (by decide))) (os_n (os_l (so_istore d_Mo_find_255 (by decide))) (os_l (so_iload d_Mo_find_257)))) (os_n (os_n (os_l (so_iconst d_Mo_find_259 (by decide))) (os_l (so_aload_n d_Mo_find_260 rfl))) (os_n (os_l (so_get (C := R_Mo) (T := F_Mo) (N := 87) (j := 11) in_Mo rfl (by decide) mw_1805 d_Mo_find_261)) (os_l (so_imul d_Mo_find_264))))) (os_n (os_n (os_l (so_icge d_Mo_find_265 (by decide))) (os_n (os_l (so_iload d_Mo_find_268)) (os_l (so_iconst d_Mo_find_270 (by decide))))) (os_n (os_n (os_l (so_icne d_Mo_find_271 (by decide))) (os_l (so_iload d_Mo_find_274))) (os_n (os_l (so_ifle d_Mo_find_276 (by decide))) (os_l (so_aload_n d_Mo_find_279 rfl)))))))) (os_n (os_n (os_n (os_n (os_n (os_l (so_get (C := R_Mo) (T := F_Mo) (N := 87) (j := 34) in_Mo rfl (by decide) mw_1828 d_Mo_find_280)) (os_n (os_l (so_iload d_Mo_find_283)) (os_l (so_iaload d_Mo_find_285)))) (os_n (os_l (so_iload d_Mo_find_286)) (os_n (os_l (so_icne d_Mo_find_288 (by decide))) (os_l (so_aload_n d_Mo_find_291 rfl))))) (os_n (os_n (os_l (so_get (C := R_Mo) (T := F_Mo) (N := 87) (j := 35) in_Mo rfl (by decide) mw_1829 d_Mo_find_292)) (os_n (os_l (so_iload d_Mo_find_295)) (os_l (so_iaload d_Mo_find_297)))) (os_n (os_n (os_l (so_aload_n d_Mo_find_298 rfl)) (os_l (so_get (C := R_Mo) (T := F_Mo) (N := 87) (j := 35) in_Mo rfl (by decide) mw_1829 d_Mo_find_299))) (os_n (os_l (so_iload_n d_Mo_find_302 rfl)) (os_l (so_iaload d_Mo_find_303)))))) (os_n (os_n (os_n (os_l (so_iconst d_Mo_find_304 (by decide))) (os_n (os_l (so_isub d_Mo_find_305)) (os_l (so_icne d_Mo_find_306 (by decide))))) (os_n (os_n (os_l (so_aload_n d_Mo_find_309 rfl)) (os_l (so_iload_n d_Mo_find_310 rfl))) (os_n (os_l (so_iconst d_Mo_find_311 (by decide))) (os_l (so_ixor d_Mo_find_312))))) (os_n (os_n (os_l (so_iload d_Mo_find_313)) (os_n (os_l (so_callV (iv := mi_Mo_needOf) rfl rfl rfl mw_2510 mw_2512 sl_170 mw_18 mw_2513 ⟨by decide +kernel, by decide +kernel, by decide +kernel⟩ (by decide) d_Mo_find_315)) (os_l (so_iconst d_Mo_find_318 (by decide))))) (os_n (os_n (os_l (so_iceq d_Mo_find_319 (by decide))) (os_l (so_iload d_Mo_find_322))) (os_n (os_l (so_istore d_Mo_find_324 (by decide))) (os_l (so_iinc d_Mo_find_326 (by decide) (by decide)))))))) (os_n (os_n (os_n (os_n (os_l (so_goto d_Mo_find_329 (by decide))) (os_n (os_l (so_iload d_Mo_find_332)) (os_l (so_iconst d_Mo_find_334 (by decide))))) (os_n (os_l (so_iceq d_Mo_find_335 (by decide))) (os_n (os_l (so_aload_n d_Mo_find_338 rfl)) (os_l (so_get (C := R_Mo) (T := F_Mo) (N := 87) (j := 38) in_Mo rfl (by decide) mw_1832 d_Mo_find_339))))) (os_n (os_n (os_l (so_aload_n d_Mo_find_342 rfl)) (os_n (os_l (so_get (C := R_Mo) (T := F_Mo) (N := 87) (j := 13) in_Mo rfl (by decide) mw_1807 d_Mo_find_343)) (os_l (so_iload d_Mo_find_346)))) (os_n (os_n (os_l (so_iaload d_Mo_find_348)) (os_l (so_aload_n d_Mo_find_349 rfl))) (os_n (os_l (so_iload_n d_Mo_find_350 rfl)) (os_l (so_iconst d_Mo_find_351 (by decide))))))) (os_n (os_n (os_n (os_l (so_ixor d_Mo_find_352)) (os_n (os_l (so_iload d_Mo_find_353)) (os_l (so_callV (iv := mi_Mo_needOf) rfl rfl rfl mw_2510 mw_2512 sl_170 mw_18 mw_2513 ⟨by decide +kernel, by decide +kernel, by decide +kernel⟩ (by decide) d_Mo_find_355)))) (os_n (os_n (os_l (so_iastore d_Mo_find_358)) (os_l (so_iload d_Mo_find_359))) (os_n (os_l (so_istore_n d_Mo_find_361 rfl (by decide))) (os_l (so_goto d_Mo_find_362 (by decide)))))) (os_n (os_n (os_l (so_aload_n d_Mo_find_365 rfl)) (os_n (os_l (so_get (C := R_Mo) (T := F_Mo) (N := 87) (j := 39) in_Mo rfl (by decide) mw_1833 d_Mo_find_366)) (os_l (so_ifle d_Mo_find_369 (by decide))))) (os_n (os_n (os_l (so_iconst d_Mo_find_372 (by decide))) (os_l (so_goto d_Mo_find_373 (by decide)))) (os_n (os_l (so_iconst d_Mo_find_376 (by decide))) (os_l (so_zreturn rfl d_Mo_find_377))))))))))
