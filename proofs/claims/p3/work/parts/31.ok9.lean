abbrev t_Tx_digits_205 : List UInt8 := 177 :: []
abbrev t_Tx_digits_202 : List UInt8 := 167 :: 255 :: 197 :: t_Tx_digits_205
abbrev t_Tx_digits_199 : List UInt8 := 181 :: 0 :: 133 :: t_Tx_digits_202
abbrev t_Tx_digits_198 : List UInt8 := 96 :: t_Tx_digits_199
abbrev t_Tx_digits_197 : List UInt8 := 4 :: t_Tx_digits_198
abbrev t_Tx_digits_194 : List UInt8 := 180 :: 0 :: 133 :: t_Tx_digits_197
abbrev t_Tx_digits_193 : List UInt8 := 89 :: t_Tx_digits_194
abbrev t_Tx_digits_192 : List UInt8 := 42 :: t_Tx_digits_193
abbrev t_Tx_digits_191 : List UInt8 := 64 :: t_Tx_digits_192
abbrev t_Tx_digits_190 : List UInt8 := 109 :: t_Tx_digits_191
abbrev t_Tx_digits_187 : List UInt8 := 20 :: 0 :: 170 :: t_Tx_digits_190
abbrev t_Tx_digits_186 : List UInt8 := 31 :: t_Tx_digits_187
abbrev t_Tx_digits_183 : List UInt8 := 181 :: 0 :: 166 :: t_Tx_digits_186
abbrev t_Tx_digits_182 : List UInt8 := 97 :: t_Tx_digits_183
abbrev t_Tx_digits_181 : List UInt8 := 105 :: t_Tx_digits_182
abbrev t_Tx_digits_180 : List UInt8 := 133 :: t_Tx_digits_181
abbrev t_Tx_digits_179 : List UInt8 := 100 :: t_Tx_digits_180
abbrev t_Tx_digits_177 : List UInt8 := 16 :: 48 :: t_Tx_digits_179
abbrev t_Tx_digits_174 : List UInt8 := 182 :: 0 :: 136 :: t_Tx_digits_177
abbrev t_Tx_digits_171 : List UInt8 := 180 :: 0 :: 133 :: t_Tx_digits_174
abbrev t_Tx_digits_170 : List UInt8 := 42 :: t_Tx_digits_171
abbrev t_Tx_digits_169 : List UInt8 := 42 :: t_Tx_digits_170
abbrev t_Tx_digits_168 : List UInt8 := 31 :: t_Tx_digits_169
abbrev t_Tx_digits_165 : List UInt8 := 180 :: 0 :: 166 :: t_Tx_digits_168
abbrev t_Tx_digits_164 : List UInt8 := 89 :: t_Tx_digits_165
abbrev t_Tx_digits_163 : List UInt8 := 42 :: t_Tx_digits_164
abbrev t_Tx_digits_160 : List UInt8 := 158 :: 0 :: 45 :: t_Tx_digits_163
abbrev t_Tx_digits_159 : List UInt8 := 148 :: t_Tx_digits_160
abbrev t_Tx_digits_158 : List UInt8 := 9 :: t_Tx_digits_159
abbrev t_Tx_digits_157 : List UInt8 := 31 :: t_Tx_digits_158
abbrev t_Tx_digits_154 : List UInt8 := 153 :: 0 :: 51 :: t_Tx_digits_157
abbrev t_Tx_digits_151 : List UInt8 := 184 :: 0 :: 153 :: t_Tx_digits_154
abbrev t_Tx_digits_148 : List UInt8 := 182 :: 0 :: 136 :: t_Tx_digits_151
abbrev t_Tx_digits_145 : List UInt8 := 180 :: 0 :: 133 :: t_Tx_digits_148
abbrev t_Tx_digits_144 : List UInt8 := 42 :: t_Tx_digits_145
abbrev t_Tx_digits_143 : List UInt8 := 42 :: t_Tx_digits_144
abbrev t_Tx_digits_142 : List UInt8 := 64 :: t_Tx_digits_143
abbrev t_Tx_digits_139 : List UInt8 := 20 :: 0 :: 180 :: t_Tx_digits_142
abbrev t_Tx_digits_136 : List UInt8 := 181 :: 0 :: 133 :: t_Tx_digits_139
abbrev t_Tx_digits_135 : List UInt8 := 96 :: t_Tx_digits_136
abbrev t_Tx_digits_134 : List UInt8 := 4 :: t_Tx_digits_135
abbrev t_Tx_digits_131 : List UInt8 := 180 :: 0 :: 133 :: t_Tx_digits_134
abbrev t_Tx_digits_130 : List UInt8 := 89 :: t_Tx_digits_131
abbrev t_Tx_digits_129 : List UInt8 := 42 :: t_Tx_digits_130
abbrev t_Tx_digits_126 : List UInt8 := 153 :: 0 :: 79 :: t_Tx_digits_129
abbrev t_Tx_digits_123 : List UInt8 := 180 :: 0 :: 176 :: t_Tx_digits_126
abbrev t_Tx_digits_122 : List UInt8 := 42 :: t_Tx_digits_123
abbrev t_Tx_digits_119 : List UInt8 := 181 :: 0 :: 176 :: t_Tx_digits_122
abbrev t_Tx_digits_118 : List UInt8 := 3 :: t_Tx_digits_119
abbrev t_Tx_digits_115 : List UInt8 := 167 :: 0 :: 4 :: t_Tx_digits_118
abbrev t_Tx_digits_114 : List UInt8 := 4 :: t_Tx_digits_115
abbrev t_Tx_digits_111 : List UInt8 := 153 :: 0 :: 7 :: t_Tx_digits_114
abbrev t_Tx_digits_108 : List UInt8 := 184 :: 0 :: 153 :: t_Tx_digits_111
abbrev t_Tx_digits_105 : List UInt8 := 182 :: 0 :: 136 :: t_Tx_digits_108
abbrev t_Tx_digits_104 : List UInt8 := 96 :: t_Tx_digits_105
abbrev t_Tx_digits_103 : List UInt8 := 4 :: t_Tx_digits_104
abbrev t_Tx_digits_100 : List UInt8 := 180 :: 0 :: 133 :: t_Tx_digits_103
abbrev t_Tx_digits_99 : List UInt8 := 42 :: t_Tx_digits_100
abbrev t_Tx_digits_98 : List UInt8 := 42 :: t_Tx_digits_99
abbrev t_Tx_digits_95 : List UInt8 := 160 :: 0 :: 23 :: t_Tx_digits_98
abbrev t_Tx_digits_93 : List UInt8 := 16 :: 46 :: t_Tx_digits_95
abbrev t_Tx_digits_90 : List UInt8 := 182 :: 0 :: 136 :: t_Tx_digits_93
abbrev t_Tx_digits_87 : List UInt8 := 180 :: 0 :: 133 :: t_Tx_digits_90
abbrev t_Tx_digits_86 : List UInt8 := 42 :: t_Tx_digits_87
abbrev t_Tx_digits_85 : List UInt8 := 42 :: t_Tx_digits_86
abbrev t_Tx_digits_84 : List UInt8 := 42 :: t_Tx_digits_85
abbrev t_Tx_digits_81 : List UInt8 := 181 :: 0 :: 166 :: t_Tx_digits_84
abbrev t_Tx_digits_80 : List UInt8 := 105 :: t_Tx_digits_81
abbrev t_Tx_digits_77 : List UInt8 := 20 :: 0 :: 174 :: t_Tx_digits_80
abbrev t_Tx_digits_74 : List UInt8 := 180 :: 0 :: 166 :: t_Tx_digits_77
abbrev t_Tx_digits_73 : List UInt8 := 42 :: t_Tx_digits_74
abbrev t_Tx_digits_72 : List UInt8 := 42 :: t_Tx_digits_73
abbrev t_Tx_digits_69 : List UInt8 := 167 :: 255 :: 192 :: t_Tx_digits_72
abbrev t_Tx_digits_66 : List UInt8 := 181 :: 0 :: 133 :: t_Tx_digits_69
abbrev t_Tx_digits_65 : List UInt8 := 96 :: t_Tx_digits_66
abbrev t_Tx_digits_64 : List UInt8 := 4 :: t_Tx_digits_65
abbrev t_Tx_digits_61 : List UInt8 := 180 :: 0 :: 133 :: t_Tx_digits_64
abbrev t_Tx_digits_60 : List UInt8 := 89 :: t_Tx_digits_61
abbrev t_Tx_digits_59 : List UInt8 := 42 :: t_Tx_digits_60
abbrev t_Tx_digits_56 : List UInt8 := 181 :: 0 :: 166 :: t_Tx_digits_59
abbrev t_Tx_digits_55 : List UInt8 := 101 :: t_Tx_digits_56
abbrev t_Tx_digits_52 : List UInt8 := 20 :: 0 :: 172 :: t_Tx_digits_55
abbrev t_Tx_digits_51 : List UInt8 := 97 :: t_Tx_digits_52
abbrev t_Tx_digits_50 : List UInt8 := 133 :: t_Tx_digits_51
abbrev t_Tx_digits_47 : List UInt8 := 182 :: 0 :: 136 :: t_Tx_digits_50
abbrev t_Tx_digits_44 : List UInt8 := 180 :: 0 :: 133 :: t_Tx_digits_47
abbrev t_Tx_digits_43 : List UInt8 := 42 :: t_Tx_digits_44
abbrev t_Tx_digits_42 : List UInt8 := 42 :: t_Tx_digits_43
abbrev t_Tx_digits_41 : List UInt8 := 105 :: t_Tx_digits_42
abbrev t_Tx_digits_38 : List UInt8 := 180 :: 0 :: 166 :: t_Tx_digits_41
abbrev t_Tx_digits_37 : List UInt8 := 42 :: t_Tx_digits_38
abbrev t_Tx_digits_34 : List UInt8 := 20 :: 0 :: 170 :: t_Tx_digits_37
abbrev t_Tx_digits_33 : List UInt8 := 42 :: t_Tx_digits_34
abbrev t_Tx_digits_30 : List UInt8 := 162 :: 0 :: 42 :: t_Tx_digits_33
abbrev t_Tx_digits_28 : List UInt8 := 16 :: 9 :: t_Tx_digits_30
abbrev t_Tx_digits_27 : List UInt8 := 100 :: t_Tx_digits_28
abbrev t_Tx_digits_24 : List UInt8 := 180 :: 0 :: 69 :: t_Tx_digits_27
abbrev t_Tx_digits_23 : List UInt8 := 42 :: t_Tx_digits_24
abbrev t_Tx_digits_20 : List UInt8 := 180 :: 0 :: 133 :: t_Tx_digits_23
abbrev t_Tx_digits_19 : List UInt8 := 42 :: t_Tx_digits_20
abbrev t_Tx_digits_16 : List UInt8 := 153 :: 0 :: 56 :: t_Tx_digits_19
abbrev t_Tx_digits_13 : List UInt8 := 184 :: 0 :: 153 :: t_Tx_digits_16
abbrev t_Tx_digits_10 : List UInt8 := 182 :: 0 :: 136 :: t_Tx_digits_13
abbrev t_Tx_digits_7 : List UInt8 := 180 :: 0 :: 133 :: t_Tx_digits_10
abbrev t_Tx_digits_6 : List UInt8 := 42 :: t_Tx_digits_7
abbrev t_Tx_digits_5 : List UInt8 := 42 :: t_Tx_digits_6
abbrev t_Tx_digits_2 : List UInt8 := 181 :: 0 :: 166 :: t_Tx_digits_5
abbrev t_Tx_digits_1 : List UInt8 := 9 :: t_Tx_digits_2
abbrev t_Tx_digits_0 : List UInt8 := 42 :: t_Tx_digits_1
theorem a_Tx_digits_0 : dk_at b_Tx_digits 0 t_Tx_digits_0 := dk_start (by decide +kernel)
theorem a_Tx_digits_1 : dk_at b_Tx_digits 1 t_Tx_digits_1 := dk_go 1 a_Tx_digits_0 rfl
theorem a_Tx_digits_2 : dk_at b_Tx_digits 2 t_Tx_digits_2 := dk_go 1 a_Tx_digits_1 rfl
theorem a_Tx_digits_5 : dk_at b_Tx_digits 5 t_Tx_digits_5 := dk_go 3 a_Tx_digits_2 rfl
theorem a_Tx_digits_6 : dk_at b_Tx_digits 6 t_Tx_digits_6 := dk_go 1 a_Tx_digits_5 rfl
theorem a_Tx_digits_7 : dk_at b_Tx_digits 7 t_Tx_digits_7 := dk_go 1 a_Tx_digits_6 rfl
theorem a_Tx_digits_10 : dk_at b_Tx_digits 10 t_Tx_digits_10 := dk_go 3 a_Tx_digits_7 rfl
theorem a_Tx_digits_13 : dk_at b_Tx_digits 13 t_Tx_digits_13 := dk_go 3 a_Tx_digits_10 rfl
theorem a_Tx_digits_16 : dk_at b_Tx_digits 16 t_Tx_digits_16 := dk_go 3 a_Tx_digits_13 rfl
theorem a_Tx_digits_19 : dk_at b_Tx_digits 19 t_Tx_digits_19 := dk_go 3 a_Tx_digits_16 rfl
theorem a_Tx_digits_20 : dk_at b_Tx_digits 20 t_Tx_digits_20 := dk_go 1 a_Tx_digits_19 rfl
theorem a_Tx_digits_23 : dk_at b_Tx_digits 23 t_Tx_digits_23 := dk_go 3 a_Tx_digits_20 rfl
theorem a_Tx_digits_24 : dk_at b_Tx_digits 24 t_Tx_digits_24 := dk_go 1 a_Tx_digits_23 rfl
theorem a_Tx_digits_27 : dk_at b_Tx_digits 27 t_Tx_digits_27 := dk_go 3 a_Tx_digits_24 rfl
theorem a_Tx_digits_28 : dk_at b_Tx_digits 28 t_Tx_digits_28 := dk_go 1 a_Tx_digits_27 rfl
theorem a_Tx_digits_30 : dk_at b_Tx_digits 30 t_Tx_digits_30 := dk_go 2 a_Tx_digits_28 rfl
theorem a_Tx_digits_33 : dk_at b_Tx_digits 33 t_Tx_digits_33 := dk_go 3 a_Tx_digits_30 rfl
theorem a_Tx_digits_34 : dk_at b_Tx_digits 34 t_Tx_digits_34 := dk_go 1 a_Tx_digits_33 rfl
theorem a_Tx_digits_37 : dk_at b_Tx_digits 37 t_Tx_digits_37 := dk_go 3 a_Tx_digits_34 rfl
theorem a_Tx_digits_38 : dk_at b_Tx_digits 38 t_Tx_digits_38 := dk_go 1 a_Tx_digits_37 rfl
theorem a_Tx_digits_41 : dk_at b_Tx_digits 41 t_Tx_digits_41 := dk_go 3 a_Tx_digits_38 rfl
theorem a_Tx_digits_42 : dk_at b_Tx_digits 42 t_Tx_digits_42 := dk_go 1 a_Tx_digits_41 rfl
theorem a_Tx_digits_43 : dk_at b_Tx_digits 43 t_Tx_digits_43 := dk_go 1 a_Tx_digits_42 rfl
theorem a_Tx_digits_44 : dk_at b_Tx_digits 44 t_Tx_digits_44 := dk_go 1 a_Tx_digits_43 rfl
theorem a_Tx_digits_47 : dk_at b_Tx_digits 47 t_Tx_digits_47 := dk_go 3 a_Tx_digits_44 rfl
theorem a_Tx_digits_50 : dk_at b_Tx_digits 50 t_Tx_digits_50 := dk_go 3 a_Tx_digits_47 rfl
theorem a_Tx_digits_51 : dk_at b_Tx_digits 51 t_Tx_digits_51 := dk_go 1 a_Tx_digits_50 rfl
theorem a_Tx_digits_52 : dk_at b_Tx_digits 52 t_Tx_digits_52 := dk_go 1 a_Tx_digits_51 rfl
theorem a_Tx_digits_55 : dk_at b_Tx_digits 55 t_Tx_digits_55 := dk_go 3 a_Tx_digits_52 rfl
theorem a_Tx_digits_56 : dk_at b_Tx_digits 56 t_Tx_digits_56 := dk_go 1 a_Tx_digits_55 rfl
theorem a_Tx_digits_59 : dk_at b_Tx_digits 59 t_Tx_digits_59 := dk_go 3 a_Tx_digits_56 rfl
theorem a_Tx_digits_60 : dk_at b_Tx_digits 60 t_Tx_digits_60 := dk_go 1 a_Tx_digits_59 rfl
theorem a_Tx_digits_61 : dk_at b_Tx_digits 61 t_Tx_digits_61 := dk_go 1 a_Tx_digits_60 rfl
theorem a_Tx_digits_64 : dk_at b_Tx_digits 64 t_Tx_digits_64 := dk_go 3 a_Tx_digits_61 rfl
theorem a_Tx_digits_65 : dk_at b_Tx_digits 65 t_Tx_digits_65 := dk_go 1 a_Tx_digits_64 rfl
theorem a_Tx_digits_66 : dk_at b_Tx_digits 66 t_Tx_digits_66 := dk_go 1 a_Tx_digits_65 rfl
theorem a_Tx_digits_69 : dk_at b_Tx_digits 69 t_Tx_digits_69 := dk_go 3 a_Tx_digits_66 rfl
theorem a_Tx_digits_72 : dk_at b_Tx_digits 72 t_Tx_digits_72 := dk_go 3 a_Tx_digits_69 rfl
theorem a_Tx_digits_73 : dk_at b_Tx_digits 73 t_Tx_digits_73 := dk_go 1 a_Tx_digits_72 rfl
theorem a_Tx_digits_74 : dk_at b_Tx_digits 74 t_Tx_digits_74 := dk_go 1 a_Tx_digits_73 rfl
theorem a_Tx_digits_77 : dk_at b_Tx_digits 77 t_Tx_digits_77 := dk_go 3 a_Tx_digits_74 rfl
theorem a_Tx_digits_80 : dk_at b_Tx_digits 80 t_Tx_digits_80 := dk_go 3 a_Tx_digits_77 rfl
theorem a_Tx_digits_81 : dk_at b_Tx_digits 81 t_Tx_digits_81 := dk_go 1 a_Tx_digits_80 rfl
theorem a_Tx_digits_84 : dk_at b_Tx_digits 84 t_Tx_digits_84 := dk_go 3 a_Tx_digits_81 rfl
theorem a_Tx_digits_85 : dk_at b_Tx_digits 85 t_Tx_digits_85 := dk_go 1 a_Tx_digits_84 rfl
theorem a_Tx_digits_86 : dk_at b_Tx_digits 86 t_Tx_digits_86 := dk_go 1 a_Tx_digits_85 rfl
theorem a_Tx_digits_87 : dk_at b_Tx_digits 87 t_Tx_digits_87 := dk_go 1 a_Tx_digits_86 rfl
theorem a_Tx_digits_90 : dk_at b_Tx_digits 90 t_Tx_digits_90 := dk_go 3 a_Tx_digits_87 rfl
theorem a_Tx_digits_93 : dk_at b_Tx_digits 93 t_Tx_digits_93 := dk_go 3 a_Tx_digits_90 rfl
theorem a_Tx_digits_95 : dk_at b_Tx_digits 95 t_Tx_digits_95 := dk_go 2 a_Tx_digits_93 rfl
theorem a_Tx_digits_98 : dk_at b_Tx_digits 98 t_Tx_digits_98 := dk_go 3 a_Tx_digits_95 rfl
theorem a_Tx_digits_99 : dk_at b_Tx_digits 99 t_Tx_digits_99 := dk_go 1 a_Tx_digits_98 rfl
theorem a_Tx_digits_100 : dk_at b_Tx_digits 100 t_Tx_digits_100 := dk_go 1 a_Tx_digits_99 rfl
theorem a_Tx_digits_103 : dk_at b_Tx_digits 103 t_Tx_digits_103 := dk_go 3 a_Tx_digits_100 rfl
theorem a_Tx_digits_104 : dk_at b_Tx_digits 104 t_Tx_digits_104 := dk_go 1 a_Tx_digits_103 rfl
theorem a_Tx_digits_105 : dk_at b_Tx_digits 105 t_Tx_digits_105 := dk_go 1 a_Tx_digits_104 rfl
theorem a_Tx_digits_108 : dk_at b_Tx_digits 108 t_Tx_digits_108 := dk_go 3 a_Tx_digits_105 rfl
theorem a_Tx_digits_111 : dk_at b_Tx_digits 111 t_Tx_digits_111 := dk_go 3 a_Tx_digits_108 rfl
theorem a_Tx_digits_114 : dk_at b_Tx_digits 114 t_Tx_digits_114 := dk_go 3 a_Tx_digits_111 rfl
theorem a_Tx_digits_115 : dk_at b_Tx_digits 115 t_Tx_digits_115 := dk_go 1 a_Tx_digits_114 rfl
theorem a_Tx_digits_118 : dk_at b_Tx_digits 118 t_Tx_digits_118 := dk_go 3 a_Tx_digits_115 rfl
theorem a_Tx_digits_119 : dk_at b_Tx_digits 119 t_Tx_digits_119 := dk_go 1 a_Tx_digits_118 rfl
theorem a_Tx_digits_122 : dk_at b_Tx_digits 122 t_Tx_digits_122 := dk_go 3 a_Tx_digits_119 rfl
theorem a_Tx_digits_123 : dk_at b_Tx_digits 123 t_Tx_digits_123 := dk_go 1 a_Tx_digits_122 rfl
theorem a_Tx_digits_126 : dk_at b_Tx_digits 126 t_Tx_digits_126 := dk_go 3 a_Tx_digits_123 rfl
theorem a_Tx_digits_129 : dk_at b_Tx_digits 129 t_Tx_digits_129 := dk_go 3 a_Tx_digits_126 rfl
theorem a_Tx_digits_130 : dk_at b_Tx_digits 130 t_Tx_digits_130 := dk_go 1 a_Tx_digits_129 rfl
theorem a_Tx_digits_131 : dk_at b_Tx_digits 131 t_Tx_digits_131 := dk_go 1 a_Tx_digits_130 rfl
theorem a_Tx_digits_134 : dk_at b_Tx_digits 134 t_Tx_digits_134 := dk_go 3 a_Tx_digits_131 rfl
theorem a_Tx_digits_135 : dk_at b_Tx_digits 135 t_Tx_digits_135 := dk_go 1 a_Tx_digits_134 rfl
theorem a_Tx_digits_136 : dk_at b_Tx_digits 136 t_Tx_digits_136 := dk_go 1 a_Tx_digits_135 rfl
theorem a_Tx_digits_139 : dk_at b_Tx_digits 139 t_Tx_digits_139 := dk_go 3 a_Tx_digits_136 rfl
theorem a_Tx_digits_142 : dk_at b_Tx_digits 142 t_Tx_digits_142 := dk_go 3 a_Tx_digits_139 rfl
theorem a_Tx_digits_143 : dk_at b_Tx_digits 143 t_Tx_digits_143 := dk_go 1 a_Tx_digits_142 rfl
theorem a_Tx_digits_144 : dk_at b_Tx_digits 144 t_Tx_digits_144 := dk_go 1 a_Tx_digits_143 rfl
theorem a_Tx_digits_145 : dk_at b_Tx_digits 145 t_Tx_digits_145 := dk_go 1 a_Tx_digits_144 rfl
theorem a_Tx_digits_148 : dk_at b_Tx_digits 148 t_Tx_digits_148 := dk_go 3 a_Tx_digits_145 rfl
theorem a_Tx_digits_151 : dk_at b_Tx_digits 151 t_Tx_digits_151 := dk_go 3 a_Tx_digits_148 rfl
theorem a_Tx_digits_154 : dk_at b_Tx_digits 154 t_Tx_digits_154 := dk_go 3 a_Tx_digits_151 rfl
theorem a_Tx_digits_157 : dk_at b_Tx_digits 157 t_Tx_digits_157 := dk_go 3 a_Tx_digits_154 rfl
theorem a_Tx_digits_158 : dk_at b_Tx_digits 158 t_Tx_digits_158 := dk_go 1 a_Tx_digits_157 rfl
theorem a_Tx_digits_159 : dk_at b_Tx_digits 159 t_Tx_digits_159 := dk_go 1 a_Tx_digits_158 rfl
theorem a_Tx_digits_160 : dk_at b_Tx_digits 160 t_Tx_digits_160 := dk_go 1 a_Tx_digits_159 rfl
theorem a_Tx_digits_163 : dk_at b_Tx_digits 163 t_Tx_digits_163 := dk_go 3 a_Tx_digits_160 rfl
theorem a_Tx_digits_164 : dk_at b_Tx_digits 164 t_Tx_digits_164 := dk_go 1 a_Tx_digits_163 rfl
theorem a_Tx_digits_165 : dk_at b_Tx_digits 165 t_Tx_digits_165 := dk_go 1 a_Tx_digits_164 rfl
theorem a_Tx_digits_168 : dk_at b_Tx_digits 168 t_Tx_digits_168 := dk_go 3 a_Tx_digits_165 rfl
theorem a_Tx_digits_169 : dk_at b_Tx_digits 169 t_Tx_digits_169 := dk_go 1 a_Tx_digits_168 rfl
theorem a_Tx_digits_170 : dk_at b_Tx_digits 170 t_Tx_digits_170 := dk_go 1 a_Tx_digits_169 rfl
theorem a_Tx_digits_171 : dk_at b_Tx_digits 171 t_Tx_digits_171 := dk_go 1 a_Tx_digits_170 rfl
theorem a_Tx_digits_174 : dk_at b_Tx_digits 174 t_Tx_digits_174 := dk_go 3 a_Tx_digits_171 rfl
theorem a_Tx_digits_177 : dk_at b_Tx_digits 177 t_Tx_digits_177 := dk_go 3 a_Tx_digits_174 rfl
theorem a_Tx_digits_179 : dk_at b_Tx_digits 179 t_Tx_digits_179 := dk_go 2 a_Tx_digits_177 rfl
theorem a_Tx_digits_180 : dk_at b_Tx_digits 180 t_Tx_digits_180 := dk_go 1 a_Tx_digits_179 rfl
theorem a_Tx_digits_181 : dk_at b_Tx_digits 181 t_Tx_digits_181 := dk_go 1 a_Tx_digits_180 rfl
theorem a_Tx_digits_182 : dk_at b_Tx_digits 182 t_Tx_digits_182 := dk_go 1 a_Tx_digits_181 rfl
theorem a_Tx_digits_183 : dk_at b_Tx_digits 183 t_Tx_digits_183 := dk_go 1 a_Tx_digits_182 rfl
theorem a_Tx_digits_186 : dk_at b_Tx_digits 186 t_Tx_digits_186 := dk_go 3 a_Tx_digits_183 rfl
theorem a_Tx_digits_187 : dk_at b_Tx_digits 187 t_Tx_digits_187 := dk_go 1 a_Tx_digits_186 rfl
theorem a_Tx_digits_190 : dk_at b_Tx_digits 190 t_Tx_digits_190 := dk_go 3 a_Tx_digits_187 rfl
theorem a_Tx_digits_191 : dk_at b_Tx_digits 191 t_Tx_digits_191 := dk_go 1 a_Tx_digits_190 rfl
theorem a_Tx_digits_192 : dk_at b_Tx_digits 192 t_Tx_digits_192 := dk_go 1 a_Tx_digits_191 rfl
theorem a_Tx_digits_193 : dk_at b_Tx_digits 193 t_Tx_digits_193 := dk_go 1 a_Tx_digits_192 rfl
theorem a_Tx_digits_194 : dk_at b_Tx_digits 194 t_Tx_digits_194 := dk_go 1 a_Tx_digits_193 rfl
theorem a_Tx_digits_197 : dk_at b_Tx_digits 197 t_Tx_digits_197 := dk_go 3 a_Tx_digits_194 rfl
theorem a_Tx_digits_198 : dk_at b_Tx_digits 198 t_Tx_digits_198 := dk_go 1 a_Tx_digits_197 rfl
theorem a_Tx_digits_199 : dk_at b_Tx_digits 199 t_Tx_digits_199 := dk_go 1 a_Tx_digits_198 rfl
theorem a_Tx_digits_202 : dk_at b_Tx_digits 202 t_Tx_digits_202 := dk_go 3 a_Tx_digits_199 rfl
theorem a_Tx_digits_205 : dk_at b_Tx_digits 205 t_Tx_digits_205 := dk_go 3 a_Tx_digits_202 rfl
theorem d_Tx_digits_0 : decode b_Tx_digits 0 = .ok (.aload_n 0, 1) := dk_0 a_Tx_digits_0 (dko_42 _)
theorem d_Tx_digits_1 : decode b_Tx_digits 1 = .ok (.lconst 0, 1) := dk_0 a_Tx_digits_1 (dko_9 _)
theorem d_Tx_digits_2 : decode b_Tx_digits 2 = .ok (.putfield 166, 3) := dk_U2 a_Tx_digits_2 (dko_181 _) rfl
theorem d_Tx_digits_5 : decode b_Tx_digits 5 = .ok (.aload_n 0, 1) := dk_0 a_Tx_digits_5 (dko_42 _)
theorem d_Tx_digits_6 : decode b_Tx_digits 6 = .ok (.aload_n 0, 1) := dk_0 a_Tx_digits_6 (dko_42 _)
theorem d_Tx_digits_7 : decode b_Tx_digits 7 = .ok (.getfield 133, 3) := dk_U2 a_Tx_digits_7 (dko_180 _) rfl
theorem d_Tx_digits_10 : decode b_Tx_digits 10 = .ok (.invokevirtual 136, 3) := dk_U2 a_Tx_digits_10 (dko_182 _) rfl
theorem d_Tx_digits_13 : decode b_Tx_digits 13 = .ok (.invokestatic 153, 3) := dk_U2 a_Tx_digits_13 (dko_184 _) rfl
theorem d_Tx_digits_16 : decode b_Tx_digits 16 = .ok (.ifCond .eq 56, 3) := dk_S2 a_Tx_digits_16 (dko_153 _) (by decide +kernel)
theorem d_Tx_digits_19 : decode b_Tx_digits 19 = .ok (.aload_n 0, 1) := dk_0 a_Tx_digits_19 (dko_42 _)
theorem d_Tx_digits_20 : decode b_Tx_digits 20 = .ok (.getfield 133, 3) := dk_U2 a_Tx_digits_20 (dko_180 _) rfl
theorem d_Tx_digits_23 : decode b_Tx_digits 23 = .ok (.aload_n 0, 1) := dk_0 a_Tx_digits_23 (dko_42 _)
theorem d_Tx_digits_24 : decode b_Tx_digits 24 = .ok (.getfield 69, 3) := dk_U2 a_Tx_digits_24 (dko_180 _) rfl
theorem d_Tx_digits_27 : decode b_Tx_digits 27 = .ok (.isub, 1) := dk_0 a_Tx_digits_27 (dko_100 _)
theorem d_Tx_digits_28 : decode b_Tx_digits 28 = .ok (.bipush 9, 2) := dk_S1 a_Tx_digits_28 (dko_16 _) (by decide +kernel)
theorem d_Tx_digits_30 : decode b_Tx_digits 30 = .ok (.if_icmp .ge 42, 3) := dk_S2 a_Tx_digits_30 (dko_162 _) (by decide +kernel)
theorem d_Tx_digits_33 : decode b_Tx_digits 33 = .ok (.aload_n 0, 1) := dk_0 a_Tx_digits_33 (dko_42 _)
theorem d_Tx_digits_34 : decode b_Tx_digits 34 = .ok (.ldc2_w 170, 3) := dk_U2 a_Tx_digits_34 (dko_20 _) rfl
theorem d_Tx_digits_37 : decode b_Tx_digits 37 = .ok (.aload_n 0, 1) := dk_0 a_Tx_digits_37 (dko_42 _)
theorem d_Tx_digits_38 : decode b_Tx_digits 38 = .ok (.getfield 166, 3) := dk_U2 a_Tx_digits_38 (dko_180 _) rfl
theorem d_Tx_digits_41 : decode b_Tx_digits 41 = .ok (.lmul, 1) := dk_0 a_Tx_digits_41 (dko_105 _)
theorem d_Tx_digits_42 : decode b_Tx_digits 42 = .ok (.aload_n 0, 1) := dk_0 a_Tx_digits_42 (dko_42 _)
theorem d_Tx_digits_43 : decode b_Tx_digits 43 = .ok (.aload_n 0, 1) := dk_0 a_Tx_digits_43 (dko_42 _)
theorem d_Tx_digits_44 : decode b_Tx_digits 44 = .ok (.getfield 133, 3) := dk_U2 a_Tx_digits_44 (dko_180 _) rfl
theorem d_Tx_digits_47 : decode b_Tx_digits 47 = .ok (.invokevirtual 136, 3) := dk_U2 a_Tx_digits_47 (dko_182 _) rfl
theorem d_Tx_digits_50 : decode b_Tx_digits 50 = .ok (.i2l, 1) := dk_0 a_Tx_digits_50 (dko_133 _)
theorem d_Tx_digits_51 : decode b_Tx_digits 51 = .ok (.ladd, 1) := dk_0 a_Tx_digits_51 (dko_97 _)
theorem d_Tx_digits_52 : decode b_Tx_digits 52 = .ok (.ldc2_w 172, 3) := dk_U2 a_Tx_digits_52 (dko_20 _) rfl
theorem d_Tx_digits_55 : decode b_Tx_digits 55 = .ok (.lsub, 1) := dk_0 a_Tx_digits_55 (dko_101 _)
theorem d_Tx_digits_56 : decode b_Tx_digits 56 = .ok (.putfield 166, 3) := dk_U2 a_Tx_digits_56 (dko_181 _) rfl
theorem d_Tx_digits_59 : decode b_Tx_digits 59 = .ok (.aload_n 0, 1) := dk_0 a_Tx_digits_59 (dko_42 _)
theorem d_Tx_digits_60 : decode b_Tx_digits 60 = .ok (.dup, 1) := dk_0 a_Tx_digits_60 (dko_89 _)
theorem d_Tx_digits_61 : decode b_Tx_digits 61 = .ok (.getfield 133, 3) := dk_U2 a_Tx_digits_61 (dko_180 _) rfl
theorem d_Tx_digits_64 : decode b_Tx_digits 64 = .ok (.iconst 1, 1) := dk_0 a_Tx_digits_64 (dko_4 _)
theorem d_Tx_digits_65 : decode b_Tx_digits 65 = .ok (.iadd, 1) := dk_0 a_Tx_digits_65 (dko_96 _)
theorem d_Tx_digits_66 : decode b_Tx_digits 66 = .ok (.putfield 133, 3) := dk_U2 a_Tx_digits_66 (dko_181 _) rfl
theorem d_Tx_digits_69 : decode b_Tx_digits 69 = .ok (.goto (-64), 3) := dk_S2 a_Tx_digits_69 (dko_167 _) (by decide +kernel)
theorem d_Tx_digits_72 : decode b_Tx_digits 72 = .ok (.aload_n 0, 1) := dk_0 a_Tx_digits_72 (dko_42 _)
theorem d_Tx_digits_73 : decode b_Tx_digits 73 = .ok (.aload_n 0, 1) := dk_0 a_Tx_digits_73 (dko_42 _)
theorem d_Tx_digits_74 : decode b_Tx_digits 74 = .ok (.getfield 166, 3) := dk_U2 a_Tx_digits_74 (dko_180 _) rfl
theorem d_Tx_digits_77 : decode b_Tx_digits 77 = .ok (.ldc2_w 174, 3) := dk_U2 a_Tx_digits_77 (dko_20 _) rfl
theorem d_Tx_digits_80 : decode b_Tx_digits 80 = .ok (.lmul, 1) := dk_0 a_Tx_digits_80 (dko_105 _)
theorem d_Tx_digits_81 : decode b_Tx_digits 81 = .ok (.putfield 166, 3) := dk_U2 a_Tx_digits_81 (dko_181 _) rfl
theorem d_Tx_digits_84 : decode b_Tx_digits 84 = .ok (.aload_n 0, 1) := dk_0 a_Tx_digits_84 (dko_42 _)
theorem d_Tx_digits_85 : decode b_Tx_digits 85 = .ok (.aload_n 0, 1) := dk_0 a_Tx_digits_85 (dko_42 _)
theorem d_Tx_digits_86 : decode b_Tx_digits 86 = .ok (.aload_n 0, 1) := dk_0 a_Tx_digits_86 (dko_42 _)
theorem d_Tx_digits_87 : decode b_Tx_digits 87 = .ok (.getfield 133, 3) := dk_U2 a_Tx_digits_87 (dko_180 _) rfl
theorem d_Tx_digits_90 : decode b_Tx_digits 90 = .ok (.invokevirtual 136, 3) := dk_U2 a_Tx_digits_90 (dko_182 _) rfl
theorem d_Tx_digits_93 : decode b_Tx_digits 93 = .ok (.bipush 46, 2) := dk_S1 a_Tx_digits_93 (dko_16 _) (by decide +kernel)
theorem d_Tx_digits_95 : decode b_Tx_digits 95 = .ok (.if_icmp .ne 23, 3) := dk_S2 a_Tx_digits_95 (dko_160 _) (by decide +kernel)
theorem d_Tx_digits_98 : decode b_Tx_digits 98 = .ok (.aload_n 0, 1) := dk_0 a_Tx_digits_98 (dko_42 _)
theorem d_Tx_digits_99 : decode b_Tx_digits 99 = .ok (.aload_n 0, 1) := dk_0 a_Tx_digits_99 (dko_42 _)
theorem d_Tx_digits_100 : decode b_Tx_digits 100 = .ok (.getfield 133, 3) := dk_U2 a_Tx_digits_100 (dko_180 _) rfl
theorem d_Tx_digits_103 : decode b_Tx_digits 103 = .ok (.iconst 1, 1) := dk_0 a_Tx_digits_103 (dko_4 _)
theorem d_Tx_digits_104 : decode b_Tx_digits 104 = .ok (.iadd, 1) := dk_0 a_Tx_digits_104 (dko_96 _)
theorem d_Tx_digits_105 : decode b_Tx_digits 105 = .ok (.invokevirtual 136, 3) := dk_U2 a_Tx_digits_105 (dko_182 _) rfl
theorem d_Tx_digits_108 : decode b_Tx_digits 108 = .ok (.invokestatic 153, 3) := dk_U2 a_Tx_digits_108 (dko_184 _) rfl
theorem d_Tx_digits_111 : decode b_Tx_digits 111 = .ok (.ifCond .eq 7, 3) := dk_S2 a_Tx_digits_111 (dko_153 _) (by decide +kernel)
theorem d_Tx_digits_114 : decode b_Tx_digits 114 = .ok (.iconst 1, 1) := dk_0 a_Tx_digits_114 (dko_4 _)
theorem d_Tx_digits_115 : decode b_Tx_digits 115 = .ok (.goto 4, 3) := dk_S2 a_Tx_digits_115 (dko_167 _) (by decide +kernel)
theorem d_Tx_digits_118 : decode b_Tx_digits 118 = .ok (.iconst 0, 1) := dk_0 a_Tx_digits_118 (dko_3 _)
theorem d_Tx_digits_119 : decode b_Tx_digits 119 = .ok (.putfield 176, 3) := dk_U2 a_Tx_digits_119 (dko_181 _) rfl
theorem d_Tx_digits_122 : decode b_Tx_digits 122 = .ok (.aload_n 0, 1) := dk_0 a_Tx_digits_122 (dko_42 _)
theorem d_Tx_digits_123 : decode b_Tx_digits 123 = .ok (.getfield 176, 3) := dk_U2 a_Tx_digits_123 (dko_180 _) rfl
theorem d_Tx_digits_126 : decode b_Tx_digits 126 = .ok (.ifCond .eq 79, 3) := dk_S2 a_Tx_digits_126 (dko_153 _) (by decide +kernel)
theorem d_Tx_digits_129 : decode b_Tx_digits 129 = .ok (.aload_n 0, 1) := dk_0 a_Tx_digits_129 (dko_42 _)
theorem d_Tx_digits_130 : decode b_Tx_digits 130 = .ok (.dup, 1) := dk_0 a_Tx_digits_130 (dko_89 _)
theorem d_Tx_digits_131 : decode b_Tx_digits 131 = .ok (.getfield 133, 3) := dk_U2 a_Tx_digits_131 (dko_180 _) rfl
theorem d_Tx_digits_134 : decode b_Tx_digits 134 = .ok (.iconst 1, 1) := dk_0 a_Tx_digits_134 (dko_4 _)
theorem d_Tx_digits_135 : decode b_Tx_digits 135 = .ok (.iadd, 1) := dk_0 a_Tx_digits_135 (dko_96 _)
theorem d_Tx_digits_136 : decode b_Tx_digits 136 = .ok (.putfield 133, 3) := dk_U2 a_Tx_digits_136 (dko_181 _) rfl
theorem d_Tx_digits_139 : decode b_Tx_digits 139 = .ok (.ldc2_w 180, 3) := dk_U2 a_Tx_digits_139 (dko_20 _) rfl
theorem d_Tx_digits_142 : decode b_Tx_digits 142 = .ok (.lstore_n 1, 1) := dk_0 a_Tx_digits_142 (dko_64 _)
theorem d_Tx_digits_143 : decode b_Tx_digits 143 = .ok (.aload_n 0, 1) := dk_0 a_Tx_digits_143 (dko_42 _)
theorem d_Tx_digits_144 : decode b_Tx_digits 144 = .ok (.aload_n 0, 1) := dk_0 a_Tx_digits_144 (dko_42 _)
theorem d_Tx_digits_145 : decode b_Tx_digits 145 = .ok (.getfield 133, 3) := dk_U2 a_Tx_digits_145 (dko_180 _) rfl
theorem d_Tx_digits_148 : decode b_Tx_digits 148 = .ok (.invokevirtual 136, 3) := dk_U2 a_Tx_digits_148 (dko_182 _) rfl
theorem d_Tx_digits_151 : decode b_Tx_digits 151 = .ok (.invokestatic 153, 3) := dk_U2 a_Tx_digits_151 (dko_184 _) rfl
theorem d_Tx_digits_154 : decode b_Tx_digits 154 = .ok (.ifCond .eq 51, 3) := dk_S2 a_Tx_digits_154 (dko_153 _) (by decide +kernel)
theorem d_Tx_digits_157 : decode b_Tx_digits 157 = .ok (.lload_n 1, 1) := dk_0 a_Tx_digits_157 (dko_31 _)
theorem d_Tx_digits_158 : decode b_Tx_digits 158 = .ok (.lconst 0, 1) := dk_0 a_Tx_digits_158 (dko_9 _)
theorem d_Tx_digits_159 : decode b_Tx_digits 159 = .ok (.lcmp, 1) := dk_0 a_Tx_digits_159 (dko_148 _)
theorem d_Tx_digits_160 : decode b_Tx_digits 160 = .ok (.ifCond .le 45, 3) := dk_S2 a_Tx_digits_160 (dko_158 _) (by decide +kernel)
theorem d_Tx_digits_163 : decode b_Tx_digits 163 = .ok (.aload_n 0, 1) := dk_0 a_Tx_digits_163 (dko_42 _)
theorem d_Tx_digits_164 : decode b_Tx_digits 164 = .ok (.dup, 1) := dk_0 a_Tx_digits_164 (dko_89 _)
theorem d_Tx_digits_165 : decode b_Tx_digits 165 = .ok (.getfield 166, 3) := dk_U2 a_Tx_digits_165 (dko_180 _) rfl
theorem d_Tx_digits_168 : decode b_Tx_digits 168 = .ok (.lload_n 1, 1) := dk_0 a_Tx_digits_168 (dko_31 _)
theorem d_Tx_digits_169 : decode b_Tx_digits 169 = .ok (.aload_n 0, 1) := dk_0 a_Tx_digits_169 (dko_42 _)
theorem d_Tx_digits_170 : decode b_Tx_digits 170 = .ok (.aload_n 0, 1) := dk_0 a_Tx_digits_170 (dko_42 _)
theorem d_Tx_digits_171 : decode b_Tx_digits 171 = .ok (.getfield 133, 3) := dk_U2 a_Tx_digits_171 (dko_180 _) rfl
theorem d_Tx_digits_174 : decode b_Tx_digits 174 = .ok (.invokevirtual 136, 3) := dk_U2 a_Tx_digits_174 (dko_182 _) rfl
theorem d_Tx_digits_177 : decode b_Tx_digits 177 = .ok (.bipush 48, 2) := dk_S1 a_Tx_digits_177 (dko_16 _) (by decide +kernel)
theorem d_Tx_digits_179 : decode b_Tx_digits 179 = .ok (.isub, 1) := dk_0 a_Tx_digits_179 (dko_100 _)
theorem d_Tx_digits_180 : decode b_Tx_digits 180 = .ok (.i2l, 1) := dk_0 a_Tx_digits_180 (dko_133 _)
theorem d_Tx_digits_181 : decode b_Tx_digits 181 = .ok (.lmul, 1) := dk_0 a_Tx_digits_181 (dko_105 _)
theorem d_Tx_digits_182 : decode b_Tx_digits 182 = .ok (.ladd, 1) := dk_0 a_Tx_digits_182 (dko_97 _)
theorem d_Tx_digits_183 : decode b_Tx_digits 183 = .ok (.putfield 166, 3) := dk_U2 a_Tx_digits_183 (dko_181 _) rfl
theorem d_Tx_digits_186 : decode b_Tx_digits 186 = .ok (.lload_n 1, 1) := dk_0 a_Tx_digits_186 (dko_31 _)
theorem d_Tx_digits_187 : decode b_Tx_digits 187 = .ok (.ldc2_w 170, 3) := dk_U2 a_Tx_digits_187 (dko_20 _) rfl
theorem d_Tx_digits_190 : decode b_Tx_digits 190 = .ok (.ldiv, 1) := dk_0 a_Tx_digits_190 (dko_109 _)
theorem d_Tx_digits_191 : decode b_Tx_digits 191 = .ok (.lstore_n 1, 1) := dk_0 a_Tx_digits_191 (dko_64 _)
theorem d_Tx_digits_192 : decode b_Tx_digits 192 = .ok (.aload_n 0, 1) := dk_0 a_Tx_digits_192 (dko_42 _)
theorem d_Tx_digits_193 : decode b_Tx_digits 193 = .ok (.dup, 1) := dk_0 a_Tx_digits_193 (dko_89 _)
theorem d_Tx_digits_194 : decode b_Tx_digits 194 = .ok (.getfield 133, 3) := dk_U2 a_Tx_digits_194 (dko_180 _) rfl
theorem d_Tx_digits_197 : decode b_Tx_digits 197 = .ok (.iconst 1, 1) := dk_0 a_Tx_digits_197 (dko_4 _)
theorem d_Tx_digits_198 : decode b_Tx_digits 198 = .ok (.iadd, 1) := dk_0 a_Tx_digits_198 (dko_96 _)
theorem d_Tx_digits_199 : decode b_Tx_digits 199 = .ok (.putfield 133, 3) := dk_U2 a_Tx_digits_199 (dko_181 _) rfl
theorem d_Tx_digits_202 : decode b_Tx_digits 202 = .ok (.goto (-59), 3) := dk_S2 a_Tx_digits_202 (dko_167 _) (by decide +kernel)
theorem d_Tx_digits_205 : decode b_Tx_digits 205 = .ok (.return_, 1) := dk_0 a_Tx_digits_205 (dko_177 _)
set_option maxHeartbeats 4000000 in
set_option maxRecDepth 100000 in
theorem ok_Tx_digits (pc : Nat) : OpS mt mi_Tx_digits pc (cs_Tx_digits pc) := (os_n (os_n (os_n (os_n (os_n (os_n (os_l (so_aload_n d_Tx_digits_0 rfl)) (os_n (os_l (so_lconst d_Tx_digits_1 (by decide))) (os_l (so_putJ (C := R_Tx) (T := F_Tx) (N := 39) (j := 8) in_Tx t_Tx_ok n_Tx rfl (by decide) mw_1587 rfl (by decide +kernel) d_Tx_digits_2)))) (os_n (os_l (so_aload_n d_Tx_digits_5 rfl)) (os_n (os_l (so_aload_n d_Tx_digits_6 rfl)) (os_l (so_get (C := R_Tx) (T := F_Tx) (N := 39) (j := 2) in_Tx rfl (by decide) mw_1581 d_Tx_digits_7))))) (os_n (os_n (os_l (so_callV (iv := mi_Tx_at) rfl rfl rfl mw_2186 mw_2188 sl_112 mw_19 mw_2189 ⟨by decide +kernel, by decide +kernel, by decide +kernel⟩ (by decide) d_Tx_digits_10)) (os_n (os_l (so_callS (iv := mi_Tx_isDigit) rfl mw_2193 mw_2194 mw_19 mw_2195 ⟨by decide +kernel, by decide +kernel, by decide +kernel⟩ (by decide) d_Tx_digits_13)) (os_l (so_ifeq d_Tx_digits_16 (by decide))))) (os_n (os_n (os_l (so_aload_n d_Tx_digits_19 rfl)) (os_l (so_get (C := R_Tx) (T := F_Tx) (N := 39) (j := 2) in_Tx rfl (by decide) mw_1581 d_Tx_digits_20))) (os_n (os_l (so_aload_n d_Tx_digits_23 rfl)) (os_l (so_get (C := R_Tx) (T := F_Tx) (N := 39) (j := 5) in_Tx rfl (by decide) mw_1584 d_Tx_digits_24)))))) (os_n (os_n (os_n (os_l (so_isub d_Tx_digits_27)) (os_n (os_l (so_bipush d_Tx_digits_28 (by decide))) (os_l (so_icge d_Tx_digits_30 (by decide))))) (os_n (os_n (os_l (so_aload_n d_Tx_digits_33 rfl)) (os_l (so_ldc2 mw_2200 d_Tx_digits_34))) (os_n (os_l (so_aload_n d_Tx_digits_37 rfl)) (os_l (so_get (C := R_Tx) (T := F_Tx) (N := 39) (j := 8) in_Tx rfl (by decide) mw_1587 d_Tx_digits_38))))) (os_n (os_n (os_l (so_lmul d_Tx_digits_41)) (os_n (os_l (so_aload_n d_Tx_digits_42 rfl)) (os_l (so_aload_n d_Tx_digits_43 rfl)))) (os_n (os_n (os_l (so_get (C := R_Tx) (T := F_Tx) (N := 39) (j := 2) in_Tx rfl (by decide) mw_1581 d_Tx_digits_44)) (os_l (so_callV (iv := mi_Tx_at) rfl rfl rfl mw_2186 mw_2188 sl_112 mw_19 mw_2189 ⟨by decide +kernel, by decide +kernel, by decide +kernel⟩ (by decide) d_Tx_digits_47))) (os_n (os_l (so_i2l d_Tx_digits_50)) (os_l (so_ladd d_Tx_digits_51))))))) (os_n (os_n (os_n (os_n (os_l (so_ldc2 mw_2201 d_Tx_digits_52)) (os_n (os_l (so_lsub d_Tx_digits_55)) (os_l (so_putJ (C := R_Tx) (T := F_Tx) (N := 39) (j := 8) in_Tx t_Tx_ok n_Tx rfl (by decide) mw_1587 rfl (by decide +kernel) d_Tx_digits_56)))) (os_n (os_l (so_aload_n d_Tx_digits_59 rfl)) (os_n (os_l (so_dup d_Tx_digits_60)) (os_l (so_get (C := R_Tx) (T := F_Tx) (N := 39) (j := 2) in_Tx rfl (by decide) mw_1581 d_Tx_digits_61))))) (os_n (os_n (os_l (so_iconst d_Tx_digits_64 (by decide))) (os_n (os_l (so_iadd d_Tx_digits_65)) (os_l (so_putI (C := R_Tx) (T := F_Tx) (N := 39) (j := 2) in_Tx t_Tx_ok n_Tx rfl (by decide) mw_1581 rfl (by decide +kernel) d_Tx_digits_66)))) (os_n (os_n (os_l (so_goto d_Tx_digits_69 (by decide))) (os_l (so_aload_n d_Tx_digits_72 rfl))) (os_n (os_l (so_aload_n d_Tx_digits_73 rfl)) (os_l (so_get (C := R_Tx) (T := F_Tx) (N := 39) (j := 8) in_Tx rfl (by decide) mw_1587 d_Tx_digits_74)))))) (os_n (os_n (os_n (os_l (so_ldc2 mw_2202 d_Tx_digits_77)) (os_n (os_l (so_lmul d_Tx_digits_80)) (os_l (so_putJ (C := R_Tx) (T := F_Tx) (N := 39) (j := 8) in_Tx t_Tx_ok n_Tx rfl (by decide) mw_1587 rfl (by decide +kernel) d_Tx_digits_81)))) (os_n (os_n (os_l (so_aload_n d_Tx_digits_84 rfl)) (os_l (so_aload_n d_Tx_digits_85 rfl))) (os_n (os_l (so_aload_n d_Tx_digits_86 rfl)) (os_l (so_get (C := R_Tx) (T := F_Tx) (N := 39) (j := 2) in_Tx rfl (by decide) mw_1581 d_Tx_digits_87))))) (os_n (os_n (os_l (so_callV (iv := mi_Tx_at) rfl rfl rfl mw_2186 mw_2188 sl_112 mw_19 mw_2189 ⟨by decide +kernel, by decide +kernel, by decide +kernel⟩ (by decide) d_Tx_digits_90)) (os_n (os_l (so_bipush d_Tx_digits_93 (by decide))) (os_l (so_icne d_Tx_digits_95 (by decide))))) (os_n (os_n (os_l (so_aload_n d_Tx_digits_98 rfl)) (os_l (so_aload_n d_Tx_digits_99 rfl))) (os_n (os_l (so_get (C := R_Tx) (T := F_Tx) (N := 39) (j := 2) in_Tx rfl (by decide) mw_1581 d_Tx_digits_100)) (os_l (so_iconst d_Tx_digits_103 (by decide))))))))) (os_n (os_n (os_n (os_n (os_n (os_l (so_iadd d_Tx_digits_104)) (os_n (os_l (so_callV (iv := mi_Tx_at) rfl rfl rfl mw_2186 mw_2188 sl_112 mw_19 mw_2189 ⟨by decide +kernel, by decide +kernel, by decide +kernel⟩ (by decide) d_Tx_digits_105)) (os_l (so_callS (iv := mi_Tx_isDigit) rfl mw_2193 mw_2194 mw_19 mw_2195 ⟨by decide +kernel, by decide +kernel, by decide +kernel⟩ (by decide) d_Tx_digits_108)))) (os_n (os_l (so_ifeq d_Tx_digits_111 (by decide))) (os_n (os_l (so_iconst d_Tx_digits_114 (by decide))) (os_l (so_goto d_Tx_digits_115 (by decide)))))) (os_n (os_n (os_l (so_iconst d_Tx_digits_118 (by decide))) (os_n (os_l (so_putZ (C := R_Tx) (T := F_Tx) (N := 39) (j := 9) in_Tx t_Tx_ok n_Tx rfl (by decide) mw_1588 rfl (by decide +kernel) d_Tx_digits_119)) (os_l (so_aload_n d_Tx_digits_122 rfl)))) (os_n (os_n (os_l (so_get (C := R_Tx) (T := F_Tx) (N := 39) (j := 9) in_Tx rfl (by decide) mw_1588 d_Tx_digits_123)) (os_l (so_ifeq d_Tx_digits_126 (by decide)))) (os_n (os_l (so_aload_n d_Tx_digits_129 rfl)) (os_l (so_dup d_Tx_digits_130)))))) (os_n (os_n (os_n (os_l (so_get (C := R_Tx) (T := F_Tx) (N := 39) (j := 2) in_Tx rfl (by decide) mw_1581 d_Tx_digits_131)) (os_n (os_l (so_iconst d_Tx_digits_134 (by decide))) (os_l (so_iadd d_Tx_digits_135)))) (os_n (os_n (os_l (so_putI (C := R_Tx) (T := F_Tx) (N := 39) (j := 2) in_Tx t_Tx_ok n_Tx rfl (by decide) mw_1581 rfl (by decide +kernel) d_Tx_digits_136)) (os_l (so_ldc2 mw_2203 d_Tx_digits_139))) (os_n (os_l (so_lstore_n d_Tx_digits_142 rfl (by decide))) (os_l (so_aload_n d_Tx_digits_143 rfl))))) (os_n (os_n (os_l (so_aload_n d_Tx_digits_144 rfl)) (os_n (os_l (so_get (C := R_Tx) (T := F_Tx) (N := 39) (j := 2) in_Tx rfl (by decide) mw_1581 d_Tx_digits_145)) (os_l (so_callV (iv := mi_Tx_at) rfl rfl rfl mw_2186 mw_2188 sl_112 mw_19 mw_2189 ⟨by decide +kernel, by decide +kernel, by decide +kernel⟩ (by decide) d_Tx_digits_148)))) (os_n (os_n (os_l (so_callS (iv := mi_Tx_isDigit) rfl mw_2193 mw_2194 mw_19 mw_2195 ⟨by decide +kernel, by decide +kernel, by decide +kernel⟩ (by decide) d_Tx_digits_151)) (os_l (so_ifeq d_Tx_digits_154 (by decide)))) (os_n (os_l (so_lload_n d_Tx_digits_157 rfl)) (os_l (so_lconst d_Tx_digits_158 (by decide)))))))) (os_n (os_n (os_n (os_n (os_l (so_lcmp d_Tx_digits_159)) (os_n (os_l (so_ifle d_Tx_digits_160 (by decide))) (os_l (so_aload_n d_Tx_digits_163 rfl)))) (os_n (os_n (os_l (so_dup d_Tx_digits_164)) (os_l (so_get (C := R_Tx) (T := F_Tx) (N := 39) (j := 8) in_Tx rfl (by decide) mw_1587 d_Tx_digits_165))) (os_n (os_l (so_lload_n d_Tx_digits_168 rfl)) (os_l (so_aload_n d_Tx_digits_169 rfl))))) (os_n (os_n (os_l (so_aload_n d_Tx_digits_170 rfl)) (os_n (os_l (so_get (C := R_Tx) (T := F_Tx) (N := 39) (j := 2) in_Tx rfl (by decide) mw_1581 d_Tx_digits_171)) (os_l (so_callV (iv := mi_Tx_at) rfl rfl rfl mw_2186 mw_2188 sl_112 mw_19 mw_2189 ⟨by decide +kernel, by decide +kernel, by decide +kernel⟩ (by decide) d_Tx_digits_174)))) (os_n (os_n (os_l (so_bipush d_Tx_digits_177 (by decide))) (os_l (so_isub d_Tx_digits_179))) (os_n (os_l (so_i2l d_Tx_digits_180)) (os_l (so_lmul d_Tx_digits_181)))))) (os_n (os_n (os_n (os_l (so_ladd d_Tx_digits_182)) (os_n (os_l (so_putJ (C := R_Tx) (T := F_Tx) (N := 39) (j := 8) in_Tx t_Tx_ok n_Tx rfl (by decide) mw_1587 rfl (by decide +kernel) d_Tx_digits_183)) (os_l (so_lload_n d_Tx_digits_186 rfl)))) (os_n (os_n (os_l (so_ldc2 mw_2200 d_Tx_digits_187)) (os_l (so_ldiv d_Tx_digits_190))) (os_n (os_l (so_lstore_n d_Tx_digits_191 rfl (by decide))) (os_l (so_aload_n d_Tx_digits_192 rfl))))) (os_n (os_n (os_l (so_dup d_Tx_digits_193)) (os_n (os_l (so_get (C := R_Tx) (T := F_Tx) (N := 39) (j := 2) in_Tx rfl (by decide) mw_1581 d_Tx_digits_194)) (os_l (so_iconst d_Tx_digits_197 (by decide))))) (os_n (os_n (os_l (so_iadd d_Tx_digits_198)) (os_l (so_putI (C := R_Tx) (T := F_Tx) (N := 39) (j := 2) in_Tx t_Tx_ok n_Tx rfl (by decide) mw_1581 rfl (by decide +kernel) d_Tx_digits_199))) (os_n (os_l (so_goto d_Tx_digits_202 (by decide))) (os_l (so_return rfl d_Tx_digits_205)))))))))
abbrev t_Tx_bad_9 : List UInt8 := 172 :: []
abbrev t_Tx_bad_8 : List UInt8 := 2 :: t_Tx_bad_9
abbrev t_Tx_bad_5 : List UInt8 := 181 :: 0 :: 159 :: t_Tx_bad_8
abbrev t_Tx_bad_2 : List UInt8 := 180 :: 0 :: 69 :: t_Tx_bad_5
abbrev t_Tx_bad_1 : List UInt8 := 42 :: t_Tx_bad_2
abbrev t_Tx_bad_0 : List UInt8 := 42 :: t_Tx_bad_1
theorem a_Tx_bad_0 : dk_at b_Tx_bad 0 t_Tx_bad_0 := dk_start (by decide +kernel)
theorem a_Tx_bad_1 : dk_at b_Tx_bad 1 t_Tx_bad_1 := dk_go 1 a_Tx_bad_0 rfl
theorem a_Tx_bad_2 : dk_at b_Tx_bad 2 t_Tx_bad_2 := dk_go 1 a_Tx_bad_1 rfl
theorem a_Tx_bad_5 : dk_at b_Tx_bad 5 t_Tx_bad_5 := dk_go 3 a_Tx_bad_2 rfl
theorem a_Tx_bad_8 : dk_at b_Tx_bad 8 t_Tx_bad_8 := dk_go 3 a_Tx_bad_5 rfl
theorem a_Tx_bad_9 : dk_at b_Tx_bad 9 t_Tx_bad_9 := dk_go 1 a_Tx_bad_8 rfl
theorem d_Tx_bad_0 : decode b_Tx_bad 0 = .ok (.aload_n 0, 1) := dk_0 a_Tx_bad_0 (dko_42 _)
theorem d_Tx_bad_1 : decode b_Tx_bad 1 = .ok (.aload_n 0, 1) := dk_0 a_Tx_bad_1 (dko_42 _)
theorem d_Tx_bad_2 : decode b_Tx_bad 2 = .ok (.getfield 69, 3) := dk_U2 a_Tx_bad_2 (dko_180 _) rfl
theorem d_Tx_bad_5 : decode b_Tx_bad 5 = .ok (.putfield 159, 3) := dk_U2 a_Tx_bad_5 (dko_181 _) rfl
theorem d_Tx_bad_8 : decode b_Tx_bad 8 = .ok (.iconst (-1), 1) := dk_0 a_Tx_bad_8 (dko_2 _)
theorem d_Tx_bad_9 : decode b_Tx_bad 9 = .ok (.ireturn, 1) := dk_0 a_Tx_bad_9 (dko_172 _)
set_option maxHeartbeats 4000000 in
set_option maxRecDepth 100000 in
theorem ok_Tx_bad (pc : Nat) : OpS mt mi_Tx_bad pc (cs_Tx_bad pc) := (os_n (os_n (os_l (so_aload_n d_Tx_bad_0 rfl)) (os_n (os_l (so_aload_n d_Tx_bad_1 rfl)) (os_l (so_get (C := R_Tx) (T := F_Tx) (N := 39) (j := 5) in_Tx rfl (by decide) mw_1584 d_Tx_bad_2)))) (os_n (os_l (so_putI (C := R_Tx) (T := F_Tx) (N := 39) (j := 10) in_Tx t_Tx_ok n_Tx rfl (by decide) mw_1589 rfl (by decide +kernel) d_Tx_bad_5)) (os_n (os_l (so_iconst d_Tx_bad_8 (by decide))) (os_l (so_ireturn rfl d_Tx_bad_9)))))
abbrev t_Tx_over_22 : List UInt8 := 172 :: []
abbrev t_Tx_over_19 : List UInt8 := 182 :: 0 :: 182 :: t_Tx_over_22
abbrev t_Tx_over_18 : List UInt8 := 42 :: t_Tx_over_19
abbrev t_Tx_over_17 : List UInt8 := 172 :: t_Tx_over_18
abbrev t_Tx_over_16 : List UInt8 := 3 :: t_Tx_over_17
abbrev t_Tx_over_13 : List UInt8 := 181 :: 0 :: 159 :: t_Tx_over_16
abbrev t_Tx_over_10 : List UInt8 := 180 :: 0 :: 69 :: t_Tx_over_13
abbrev t_Tx_over_9 : List UInt8 := 42 :: t_Tx_over_10
abbrev t_Tx_over_8 : List UInt8 := 42 :: t_Tx_over_9
abbrev t_Tx_over_5 : List UInt8 := 159 :: 0 :: 13 :: t_Tx_over_8
abbrev t_Tx_over_4 : List UInt8 := 27 :: t_Tx_over_5
abbrev t_Tx_over_1 : List UInt8 := 180 :: 0 :: 146 :: t_Tx_over_4
abbrev t_Tx_over_0 : List UInt8 := 42 :: t_Tx_over_1
theorem a_Tx_over_0 : dk_at b_Tx_over 0 t_Tx_over_0 := dk_start (by decide +kernel)
theorem a_Tx_over_1 : dk_at b_Tx_over 1 t_Tx_over_1 := dk_go 1 a_Tx_over_0 rfl
theorem a_Tx_over_4 : dk_at b_Tx_over 4 t_Tx_over_4 := dk_go 3 a_Tx_over_1 rfl
theorem a_Tx_over_5 : dk_at b_Tx_over 5 t_Tx_over_5 := dk_go 1 a_Tx_over_4 rfl
theorem a_Tx_over_8 : dk_at b_Tx_over 8 t_Tx_over_8 := dk_go 3 a_Tx_over_5 rfl
theorem a_Tx_over_9 : dk_at b_Tx_over 9 t_Tx_over_9 := dk_go 1 a_Tx_over_8 rfl
theorem a_Tx_over_10 : dk_at b_Tx_over 10 t_Tx_over_10 := dk_go 1 a_Tx_over_9 rfl
theorem a_Tx_over_13 : dk_at b_Tx_over 13 t_Tx_over_13 := dk_go 3 a_Tx_over_10 rfl
theorem a_Tx_over_16 : dk_at b_Tx_over 16 t_Tx_over_16 := dk_go 3 a_Tx_over_13 rfl
theorem a_Tx_over_17 : dk_at b_Tx_over 17 t_Tx_over_17 := dk_go 1 a_Tx_over_16 rfl
theorem a_Tx_over_18 : dk_at b_Tx_over 18 t_Tx_over_18 := dk_go 1 a_Tx_over_17 rfl
theorem a_Tx_over_19 : dk_at b_Tx_over 19 t_Tx_over_19 := dk_go 1 a_Tx_over_18 rfl
theorem a_Tx_over_22 : dk_at b_Tx_over 22 t_Tx_over_22 := dk_go 3 a_Tx_over_19 rfl
theorem d_Tx_over_0 : decode b_Tx_over 0 = .ok (.aload_n 0, 1) := dk_0 a_Tx_over_0 (dko_42 _)
theorem d_Tx_over_1 : decode b_Tx_over 1 = .ok (.getfield 146, 3) := dk_U2 a_Tx_over_1 (dko_180 _) rfl
theorem d_Tx_over_4 : decode b_Tx_over 4 = .ok (.iload_n 1, 1) := dk_0 a_Tx_over_4 (dko_27 _)
theorem d_Tx_over_5 : decode b_Tx_over 5 = .ok (.if_icmp .eq 13, 3) := dk_S2 a_Tx_over_5 (dko_159 _) (by decide +kernel)
theorem d_Tx_over_8 : decode b_Tx_over 8 = .ok (.aload_n 0, 1) := dk_0 a_Tx_over_8 (dko_42 _)
theorem d_Tx_over_9 : decode b_Tx_over 9 = .ok (.aload_n 0, 1) := dk_0 a_Tx_over_9 (dko_42 _)
theorem d_Tx_over_10 : decode b_Tx_over 10 = .ok (.getfield 69, 3) := dk_U2 a_Tx_over_10 (dko_180 _) rfl
theorem d_Tx_over_13 : decode b_Tx_over 13 = .ok (.putfield 159, 3) := dk_U2 a_Tx_over_13 (dko_181 _) rfl
theorem d_Tx_over_16 : decode b_Tx_over 16 = .ok (.iconst 0, 1) := dk_0 a_Tx_over_16 (dko_3 _)
theorem d_Tx_over_17 : decode b_Tx_over 17 = .ok (.ireturn, 1) := dk_0 a_Tx_over_17 (dko_172 _)
theorem d_Tx_over_18 : decode b_Tx_over 18 = .ok (.aload_n 0, 1) := dk_0 a_Tx_over_18 (dko_42 _)
theorem d_Tx_over_19 : decode b_Tx_over 19 = .ok (.invokevirtual 182, 3) := dk_U2 a_Tx_over_19 (dko_182 _) rfl
theorem d_Tx_over_22 : decode b_Tx_over 22 = .ok (.ireturn, 1) := dk_0 a_Tx_over_22 (dko_172 _)
set_option maxHeartbeats 4000000 in
set_option maxRecDepth 100000 in
theorem ok_Tx_over (pc : Nat) : OpS mt mi_Tx_over pc (cs_Tx_over pc) := (os_n (os_n (os_n (os_l (so_aload_n d_Tx_over_0 rfl)) (os_n (os_l (so_get (C := R_Tx) (T := F_Tx) (N := 39) (j := 4) in_Tx rfl (by decide) mw_1583 d_Tx_over_1)) (os_l (so_iload_n d_Tx_over_4 rfl)))) (os_n (os_l (so_iceq d_Tx_over_5 (by decide))) (os_n (os_l (so_aload_n d_Tx_over_8 rfl)) (os_l (so_aload_n d_Tx_over_9 rfl))))) (os_n (os_n (os_l (so_get (C := R_Tx) (T := F_Tx) (N := 39) (j := 5) in_Tx rfl (by decide) mw_1584 d_Tx_over_10)) (os_n (os_l (so_putI (C := R_Tx) (T := F_Tx) (N := 39) (j := 10) in_Tx t_Tx_ok n_Tx rfl (by decide) mw_1589 rfl (by decide +kernel) d_Tx_over_13)) (os_l (so_iconst d_Tx_over_16 (by decide))))) (os_n (os_n (os_l (so_zreturn rfl d_Tx_over_17)) (os_l (so_aload_n d_Tx_over_18 rfl))) (os_n (os_l (so_callV (iv := mi_Tx_go) rfl rfl rfl mw_2182 mw_2184 sl_111 mw_19 mw_2185 ⟨by decide +kernel, by decide +kernel, by decide +kernel⟩ (by decide) d_Tx_over_19)) (os_l (so_zreturn rfl d_Tx_over_22))))))
abbrev t_Tx_isWord_17 : List UInt8 := 172 :: []
abbrev t_Tx_isWord_16 : List UInt8 := 3 :: t_Tx_isWord_17
abbrev t_Tx_isWord_13 : List UInt8 := 167 :: 0 :: 4 :: t_Tx_isWord_16
abbrev t_Tx_isWord_12 : List UInt8 := 4 :: t_Tx_isWord_13
abbrev t_Tx_isWord_9 : List UInt8 := 160 :: 0 :: 7 :: t_Tx_isWord_12
abbrev t_Tx_isWord_8 : List UInt8 := 96 :: t_Tx_isWord_9
abbrev t_Tx_isWord_7 : List UInt8 := 27 :: t_Tx_isWord_8
abbrev t_Tx_isWord_4 : List UInt8 := 17 :: 3 :: 232 :: t_Tx_isWord_7
abbrev t_Tx_isWord_1 : List UInt8 := 180 :: 0 :: 146 :: t_Tx_isWord_4
abbrev t_Tx_isWord_0 : List UInt8 := 42 :: t_Tx_isWord_1
theorem a_Tx_isWord_0 : dk_at b_Tx_isWord 0 t_Tx_isWord_0 := dk_start (by decide +kernel)
theorem a_Tx_isWord_1 : dk_at b_Tx_isWord 1 t_Tx_isWord_1 := dk_go 1 a_Tx_isWord_0 rfl
theorem a_Tx_isWord_4 : dk_at b_Tx_isWord 4 t_Tx_isWord_4 := dk_go 3 a_Tx_isWord_1 rfl
theorem a_Tx_isWord_7 : dk_at b_Tx_isWord 7 t_Tx_isWord_7 := dk_go 3 a_Tx_isWord_4 rfl
theorem a_Tx_isWord_8 : dk_at b_Tx_isWord 8 t_Tx_isWord_8 := dk_go 1 a_Tx_isWord_7 rfl
theorem a_Tx_isWord_9 : dk_at b_Tx_isWord 9 t_Tx_isWord_9 := dk_go 1 a_Tx_isWord_8 rfl
theorem a_Tx_isWord_12 : dk_at b_Tx_isWord 12 t_Tx_isWord_12 := dk_go 3 a_Tx_isWord_9 rfl
theorem a_Tx_isWord_13 : dk_at b_Tx_isWord 13 t_Tx_isWord_13 := dk_go 1 a_Tx_isWord_12 rfl
theorem a_Tx_isWord_16 : dk_at b_Tx_isWord 16 t_Tx_isWord_16 := dk_go 3 a_Tx_isWord_13 rfl
theorem a_Tx_isWord_17 : dk_at b_Tx_isWord 17 t_Tx_isWord_17 := dk_go 1 a_Tx_isWord_16 rfl
theorem d_Tx_isWord_0 : decode b_Tx_isWord 0 = .ok (.aload_n 0, 1) := dk_0 a_Tx_isWord_0 (dko_42 _)
theorem d_Tx_isWord_1 : decode b_Tx_isWord 1 = .ok (.getfield 146, 3) := dk_U2 a_Tx_isWord_1 (dko_180 _) rfl
theorem d_Tx_isWord_4 : decode b_Tx_isWord 4 = .ok (.sipush 1000, 3) := dk_S2 a_Tx_isWord_4 (dko_17 _) (by decide +kernel)
theorem d_Tx_isWord_7 : decode b_Tx_isWord 7 = .ok (.iload_n 1, 1) := dk_0 a_Tx_isWord_7 (dko_27 _)
theorem d_Tx_isWord_8 : decode b_Tx_isWord 8 = .ok (.iadd, 1) := dk_0 a_Tx_isWord_8 (dko_96 _)
theorem d_Tx_isWord_9 : decode b_Tx_isWord 9 = .ok (.if_icmp .ne 7, 3) := dk_S2 a_Tx_isWord_9 (dko_160 _) (by decide +kernel)
theorem d_Tx_isWord_12 : decode b_Tx_isWord 12 = .ok (.iconst 1, 1) := dk_0 a_Tx_isWord_12 (dko_4 _)
theorem d_Tx_isWord_13 : decode b_Tx_isWord 13 = .ok (.goto 4, 3) := dk_S2 a_Tx_isWord_13 (dko_167 _) (by decide +kernel)
theorem d_Tx_isWord_16 : decode b_Tx_isWord 16 = .ok (.iconst 0, 1) := dk_0 a_Tx_isWord_16 (dko_3 _)
theorem d_Tx_isWord_17 : decode b_Tx_isWord 17 = .ok (.ireturn, 1) := dk_0 a_Tx_isWord_17 (dko_172 _)
set_option maxHeartbeats 4000000 in
set_option maxRecDepth 100000 in
theorem ok_Tx_isWord (pc : Nat) : OpS mt mi_Tx_isWord pc (cs_Tx_isWord pc) := (os_n (os_n (os_n (os_l (so_aload_n d_Tx_isWord_0 rfl)) (os_l (so_get (C := R_Tx) (T := F_Tx) (N := 39) (j := 4) in_Tx rfl (by decide) mw_1583 d_Tx_isWord_1))) (os_n (os_l (so_sipush d_Tx_isWord_4 (by decide))) (os_n (os_l (so_iload_n d_Tx_isWord_7 rfl)) (os_l (so_iadd d_Tx_isWord_8))))) (os_n (os_n (os_l (so_icne d_Tx_isWord_9 (by decide))) (os_l (so_iconst d_Tx_isWord_12 (by decide)))) (os_n (os_l (so_goto d_Tx_isWord_13 (by decide))) (os_n (os_l (so_iconst d_Tx_isWord_16 (by decide))) (os_l (so_zreturn rfl d_Tx_isWord_17))))))
abbrev t_Tx_unitWord_27 : List UInt8 := 172 :: []
abbrev t_Tx_unitWord_26 : List UInt8 := 3 :: t_Tx_unitWord_27
abbrev t_Tx_unitWord_23 : List UInt8 := 167 :: 0 :: 4 :: t_Tx_unitWord_26
abbrev t_Tx_unitWord_22 : List UInt8 := 27 :: t_Tx_unitWord_23
abbrev t_Tx_unitWord_19 : List UInt8 := 163 :: 0 :: 7 :: t_Tx_unitWord_22
abbrev t_Tx_unitWord_18 : List UInt8 := 8 :: t_Tx_unitWord_19
abbrev t_Tx_unitWord_17 : List UInt8 := 27 :: t_Tx_unitWord_18
abbrev t_Tx_unitWord_14 : List UInt8 := 161 :: 0 :: 12 :: t_Tx_unitWord_17
abbrev t_Tx_unitWord_13 : List UInt8 := 4 :: t_Tx_unitWord_14
abbrev t_Tx_unitWord_12 : List UInt8 := 27 :: t_Tx_unitWord_13
abbrev t_Tx_unitWord_11 : List UInt8 := 60 :: t_Tx_unitWord_12
abbrev t_Tx_unitWord_10 : List UInt8 := 100 :: t_Tx_unitWord_11
abbrev t_Tx_unitWord_8 : List UInt8 := 16 :: 39 :: t_Tx_unitWord_10
abbrev t_Tx_unitWord_7 : List UInt8 := 100 :: t_Tx_unitWord_8
abbrev t_Tx_unitWord_4 : List UInt8 := 17 :: 3 :: 232 :: t_Tx_unitWord_7
abbrev t_Tx_unitWord_1 : List UInt8 := 180 :: 0 :: 146 :: t_Tx_unitWord_4
abbrev t_Tx_unitWord_0 : List UInt8 := 42 :: t_Tx_unitWord_1
theorem a_Tx_unitWord_0 : dk_at b_Tx_unitWord 0 t_Tx_unitWord_0 := dk_start (by decide +kernel)
theorem a_Tx_unitWord_1 : dk_at b_Tx_unitWord 1 t_Tx_unitWord_1 := dk_go 1 a_Tx_unitWord_0 rfl
theorem a_Tx_unitWord_4 : dk_at b_Tx_unitWord 4 t_Tx_unitWord_4 := dk_go 3 a_Tx_unitWord_1 rfl
theorem a_Tx_unitWord_7 : dk_at b_Tx_unitWord 7 t_Tx_unitWord_7 := dk_go 3 a_Tx_unitWord_4 rfl
theorem a_Tx_unitWord_8 : dk_at b_Tx_unitWord 8 t_Tx_unitWord_8 := dk_go 1 a_Tx_unitWord_7 rfl
theorem a_Tx_unitWord_10 : dk_at b_Tx_unitWord 10 t_Tx_unitWord_10 := dk_go 2 a_Tx_unitWord_8 rfl
theorem a_Tx_unitWord_11 : dk_at b_Tx_unitWord 11 t_Tx_unitWord_11 := dk_go 1 a_Tx_unitWord_10 rfl
theorem a_Tx_unitWord_12 : dk_at b_Tx_unitWord 12 t_Tx_unitWord_12 := dk_go 1 a_Tx_unitWord_11 rfl
theorem a_Tx_unitWord_13 : dk_at b_Tx_unitWord 13 t_Tx_unitWord_13 := dk_go 1 a_Tx_unitWord_12 rfl
theorem a_Tx_unitWord_14 : dk_at b_Tx_unitWord 14 t_Tx_unitWord_14 := dk_go 1 a_Tx_unitWord_13 rfl
theorem a_Tx_unitWord_17 : dk_at b_Tx_unitWord 17 t_Tx_unitWord_17 := dk_go 3 a_Tx_unitWord_14 rfl
theorem a_Tx_unitWord_18 : dk_at b_Tx_unitWord 18 t_Tx_unitWord_18 := dk_go 1 a_Tx_unitWord_17 rfl
theorem a_Tx_unitWord_19 : dk_at b_Tx_unitWord 19 t_Tx_unitWord_19 := dk_go 1 a_Tx_unitWord_18 rfl
theorem a_Tx_unitWord_22 : dk_at b_Tx_unitWord 22 t_Tx_unitWord_22 := dk_go 3 a_Tx_unitWord_19 rfl
theorem a_Tx_unitWord_23 : dk_at b_Tx_unitWord 23 t_Tx_unitWord_23 := dk_go 1 a_Tx_unitWord_22 rfl
theorem a_Tx_unitWord_26 : dk_at b_Tx_unitWord 26 t_Tx_unitWord_26 := dk_go 3 a_Tx_unitWord_23 rfl
theorem a_Tx_unitWord_27 : dk_at b_Tx_unitWord 27 t_Tx_unitWord_27 := dk_go 1 a_Tx_unitWord_26 rfl
theorem d_Tx_unitWord_0 : decode b_Tx_unitWord 0 = .ok (.aload_n 0, 1) := dk_0 a_Tx_unitWord_0 (dko_42 _)
theorem d_Tx_unitWord_1 : decode b_Tx_unitWord 1 = .ok (.getfield 146, 3) := dk_U2 a_Tx_unitWord_1 (dko_180 _) rfl
theorem d_Tx_unitWord_4 : decode b_Tx_unitWord 4 = .ok (.sipush 1000, 3) := dk_S2 a_Tx_unitWord_4 (dko_17 _) (by decide +kernel)
theorem d_Tx_unitWord_7 : decode b_Tx_unitWord 7 = .ok (.isub, 1) := dk_0 a_Tx_unitWord_7 (dko_100 _)
theorem d_Tx_unitWord_8 : decode b_Tx_unitWord 8 = .ok (.bipush 39, 2) := dk_S1 a_Tx_unitWord_8 (dko_16 _) (by decide +kernel)
theorem d_Tx_unitWord_10 : decode b_Tx_unitWord 10 = .ok (.isub, 1) := dk_0 a_Tx_unitWord_10 (dko_100 _)
theorem d_Tx_unitWord_11 : decode b_Tx_unitWord 11 = .ok (.istore_n 1, 1) := dk_0 a_Tx_unitWord_11 (dko_60 _)
theorem d_Tx_unitWord_12 : decode b_Tx_unitWord 12 = .ok (.iload_n 1, 1) := dk_0 a_Tx_unitWord_12 (dko_27 _)
theorem d_Tx_unitWord_13 : decode b_Tx_unitWord 13 = .ok (.iconst 1, 1) := dk_0 a_Tx_unitWord_13 (dko_4 _)
theorem d_Tx_unitWord_14 : decode b_Tx_unitWord 14 = .ok (.if_icmp .lt 12, 3) := dk_S2 a_Tx_unitWord_14 (dko_161 _) (by decide +kernel)
theorem d_Tx_unitWord_17 : decode b_Tx_unitWord 17 = .ok (.iload_n 1, 1) := dk_0 a_Tx_unitWord_17 (dko_27 _)
theorem d_Tx_unitWord_18 : decode b_Tx_unitWord 18 = .ok (.iconst 5, 1) := dk_0 a_Tx_unitWord_18 (dko_8 _)
theorem d_Tx_unitWord_19 : decode b_Tx_unitWord 19 = .ok (.if_icmp .gt 7, 3) := dk_S2 a_Tx_unitWord_19 (dko_163 _) (by decide +kernel)
theorem d_Tx_unitWord_22 : decode b_Tx_unitWord 22 = .ok (.iload_n 1, 1) := dk_0 a_Tx_unitWord_22 (dko_27 _)
theorem d_Tx_unitWord_23 : decode b_Tx_unitWord 23 = .ok (.goto 4, 3) := dk_S2 a_Tx_unitWord_23 (dko_167 _) (by decide +kernel)
theorem d_Tx_unitWord_26 : decode b_Tx_unitWord 26 = .ok (.iconst 0, 1) := dk_0 a_Tx_unitWord_26 (dko_3 _)
theorem d_Tx_unitWord_27 : decode b_Tx_unitWord 27 = .ok (.ireturn, 1) := dk_0 a_Tx_unitWord_27 (dko_172 _)
set_option maxHeartbeats 4000000 in
set_option maxRecDepth 100000 in
theorem ok_Tx_unitWord (pc : Nat) : OpS mt mi_Tx_unitWord pc (cs_Tx_unitWord pc) := (os_n (os_n (os_n (os_n (os_l (so_aload_n d_Tx_unitWord_0 rfl)) (os_l (so_get (C := R_Tx) (T := F_Tx) (N := 39) (j := 4) in_Tx rfl (by decide) mw_1583 d_Tx_unitWord_1))) (os_n (os_l (so_sipush d_Tx_unitWord_4 (by decide))) (os_l (so_isub d_Tx_unitWord_7)))) (os_n (os_n (os_l (so_bipush d_Tx_unitWord_8 (by decide))) (os_l (so_isub d_Tx_unitWord_10))) (os_n (os_l (so_istore_n d_Tx_unitWord_11 rfl (by decide))) (os_l (so_iload_n d_Tx_unitWord_12 rfl))))) (os_n (os_n (os_n (os_l (so_iconst d_Tx_unitWord_13 (by decide))) (os_l (so_iclt d_Tx_unitWord_14 (by decide)))) (os_n (os_l (so_iload_n d_Tx_unitWord_17 rfl)) (os_l (so_iconst d_Tx_unitWord_18 (by decide))))) (os_n (os_n (os_l (so_icgt d_Tx_unitWord_19 (by decide))) (os_l (so_iload_n d_Tx_unitWord_22 rfl))) (os_n (os_l (so_goto d_Tx_unitWord_23 (by decide))) (os_n (os_l (so_iconst d_Tx_unitWord_26 (by decide))) (os_l (so_ireturn rfl d_Tx_unitWord_27)))))))
abbrev t_Tx_base_10 : List UInt8 := 172 :: []
abbrev t_Tx_base_9 : List UInt8 := 104 :: t_Tx_base_10
abbrev t_Tx_base_8 : List UInt8 := 100 :: t_Tx_base_9
abbrev t_Tx_base_5 : List UInt8 := 180 :: 0 :: 186 :: t_Tx_base_8
abbrev t_Tx_base_4 : List UInt8 := 42 :: t_Tx_base_5
abbrev t_Tx_base_3 : List UInt8 := 4 :: t_Tx_base_4
abbrev t_Tx_base_0 : List UInt8 := 17 :: 1 :: 44 :: t_Tx_base_3
theorem a_Tx_base_0 : dk_at b_Tx_base 0 t_Tx_base_0 := dk_start (by decide +kernel)
theorem a_Tx_base_3 : dk_at b_Tx_base 3 t_Tx_base_3 := dk_go 3 a_Tx_base_0 rfl
theorem a_Tx_base_4 : dk_at b_Tx_base 4 t_Tx_base_4 := dk_go 1 a_Tx_base_3 rfl
theorem a_Tx_base_5 : dk_at b_Tx_base 5 t_Tx_base_5 := dk_go 1 a_Tx_base_4 rfl
theorem a_Tx_base_8 : dk_at b_Tx_base 8 t_Tx_base_8 := dk_go 3 a_Tx_base_5 rfl
theorem a_Tx_base_9 : dk_at b_Tx_base 9 t_Tx_base_9 := dk_go 1 a_Tx_base_8 rfl
theorem a_Tx_base_10 : dk_at b_Tx_base 10 t_Tx_base_10 := dk_go 1 a_Tx_base_9 rfl
theorem d_Tx_base_0 : decode b_Tx_base 0 = .ok (.sipush 300, 3) := dk_S2 a_Tx_base_0 (dko_17 _) (by decide +kernel)
theorem d_Tx_base_3 : decode b_Tx_base 3 = .ok (.iconst 1, 1) := dk_0 a_Tx_base_3 (dko_4 _)
theorem d_Tx_base_4 : decode b_Tx_base 4 = .ok (.aload_n 0, 1) := dk_0 a_Tx_base_4 (dko_42 _)
theorem d_Tx_base_5 : decode b_Tx_base 5 = .ok (.getfield 186, 3) := dk_U2 a_Tx_base_5 (dko_180 _) rfl
theorem d_Tx_base_8 : decode b_Tx_base 8 = .ok (.isub, 1) := dk_0 a_Tx_base_8 (dko_100 _)
theorem d_Tx_base_9 : decode b_Tx_base 9 = .ok (.imul, 1) := dk_0 a_Tx_base_9 (dko_104 _)
theorem d_Tx_base_10 : decode b_Tx_base 10 = .ok (.ireturn, 1) := dk_0 a_Tx_base_10 (dko_172 _)
set_option maxHeartbeats 4000000 in
set_option maxRecDepth 100000 in
theorem ok_Tx_base (pc : Nat) : OpS mt mi_Tx_base pc (cs_Tx_base pc) := (os_n (os_n (os_l (so_sipush d_Tx_base_0 (by decide))) (os_n (os_l (so_iconst d_Tx_base_3 (by decide))) (os_l (so_aload_n d_Tx_base_4 rfl)))) (os_n (os_n (os_l (so_get (C := R_Tx) (T := F_Tx) (N := 39) (j := 12) in_Tx rfl (by decide) mw_1591 d_Tx_base_5)) (os_l (so_isub d_Tx_base_8))) (os_n (os_l (so_imul d_Tx_base_9)) (os_l (so_ireturn rfl d_Tx_base_10)))))
abbrev t_Tx_node0_157 : List UInt8 := 172 :: []
abbrev t_Tx_node0_156 : List UInt8 := 100 :: t_Tx_node0_157
abbrev t_Tx_node0_155 : List UInt8 := 4 :: t_Tx_node0_156
abbrev t_Tx_node0_152 : List UInt8 := 180 :: 0 :: 189 :: t_Tx_node0_155
abbrev t_Tx_node0_151 : List UInt8 := 42 :: t_Tx_node0_152
abbrev t_Tx_node0_148 : List UInt8 := 181 :: 0 :: 189 :: t_Tx_node0_151
abbrev t_Tx_node0_147 : List UInt8 := 96 :: t_Tx_node0_148
abbrev t_Tx_node0_146 : List UInt8 := 4 :: t_Tx_node0_147
abbrev t_Tx_node0_143 : List UInt8 := 180 :: 0 :: 189 :: t_Tx_node0_146
abbrev t_Tx_node0_142 : List UInt8 := 89 :: t_Tx_node0_143
abbrev t_Tx_node0_141 : List UInt8 := 42 :: t_Tx_node0_142
abbrev t_Tx_node0_138 : List UInt8 := 181 :: 0 :: 201 :: t_Tx_node0_141
abbrev t_Tx_node0_136 : List UInt8 := 21 :: 6 :: t_Tx_node0_138
abbrev t_Tx_node0_135 : List UInt8 := 42 :: t_Tx_node0_136
abbrev t_Tx_node0_132 : List UInt8 := 167 :: 255 :: 213 :: t_Tx_node0_135
abbrev t_Tx_node0_129 : List UInt8 := 132 :: 8 :: 1 :: t_Tx_node0_132
abbrev t_Tx_node0_126 : List UInt8 := 181 :: 0 :: 198 :: t_Tx_node0_129
abbrev t_Tx_node0_125 : List UInt8 := 96 :: t_Tx_node0_126
abbrev t_Tx_node0_124 : List UInt8 := 4 :: t_Tx_node0_125
abbrev t_Tx_node0_121 : List UInt8 := 180 :: 0 :: 198 :: t_Tx_node0_124
abbrev t_Tx_node0_120 : List UInt8 := 89 :: t_Tx_node0_121
abbrev t_Tx_node0_119 : List UInt8 := 42 :: t_Tx_node0_120
abbrev t_Tx_node0_118 : List UInt8 := 79 :: t_Tx_node0_119
abbrev t_Tx_node0_117 : List UInt8 := 46 :: t_Tx_node0_118
abbrev t_Tx_node0_115 : List UInt8 := 21 :: 8 :: t_Tx_node0_117
abbrev t_Tx_node0_112 : List UInt8 := 180 :: 0 :: 56 :: t_Tx_node0_115
abbrev t_Tx_node0_111 : List UInt8 := 42 :: t_Tx_node0_112
abbrev t_Tx_node0_110 : List UInt8 := 96 :: t_Tx_node0_111
abbrev t_Tx_node0_107 : List UInt8 := 180 :: 0 :: 198 :: t_Tx_node0_110
abbrev t_Tx_node0_106 : List UInt8 := 42 :: t_Tx_node0_107
abbrev t_Tx_node0_103 : List UInt8 := 182 :: 0 :: 195 :: t_Tx_node0_106
abbrev t_Tx_node0_102 : List UInt8 := 42 :: t_Tx_node0_103
abbrev t_Tx_node0_99 : List UInt8 := 180 :: 0 :: 35 :: t_Tx_node0_102
abbrev t_Tx_node0_98 : List UInt8 := 42 :: t_Tx_node0_99
abbrev t_Tx_node0_95 : List UInt8 := 162 :: 0 :: 40 :: t_Tx_node0_98
abbrev t_Tx_node0_92 : List UInt8 := 180 :: 0 :: 201 :: t_Tx_node0_95
abbrev t_Tx_node0_91 : List UInt8 := 42 :: t_Tx_node0_92
abbrev t_Tx_node0_89 : List UInt8 := 21 :: 8 :: t_Tx_node0_91
abbrev t_Tx_node0_87 : List UInt8 := 54 :: 8 :: t_Tx_node0_89
abbrev t_Tx_node0_85 : List UInt8 := 21 :: 6 :: t_Tx_node0_87
abbrev t_Tx_node0_84 : List UInt8 := 79 :: t_Tx_node0_85
abbrev t_Tx_node0_83 : List UInt8 := 100 :: t_Tx_node0_84
abbrev t_Tx_node0_81 : List UInt8 := 21 :: 6 :: t_Tx_node0_83
abbrev t_Tx_node0_78 : List UInt8 := 180 :: 0 :: 201 :: t_Tx_node0_81
abbrev t_Tx_node0_77 : List UInt8 := 42 :: t_Tx_node0_78
abbrev t_Tx_node0_75 : List UInt8 := 21 :: 7 :: t_Tx_node0_77
abbrev t_Tx_node0_72 : List UInt8 := 180 :: 0 :: 32 :: t_Tx_node0_75
abbrev t_Tx_node0_71 : List UInt8 := 42 :: t_Tx_node0_72
abbrev t_Tx_node0_70 : List UInt8 := 79 :: t_Tx_node0_71
abbrev t_Tx_node0_67 : List UInt8 := 180 :: 0 :: 198 :: t_Tx_node0_70
abbrev t_Tx_node0_66 : List UInt8 := 42 :: t_Tx_node0_67
abbrev t_Tx_node0_64 : List UInt8 := 21 :: 7 :: t_Tx_node0_66
abbrev t_Tx_node0_61 : List UInt8 := 180 :: 0 :: 29 :: t_Tx_node0_64
abbrev t_Tx_node0_60 : List UInt8 := 42 :: t_Tx_node0_61
abbrev t_Tx_node0_59 : List UInt8 := 79 :: t_Tx_node0_60
abbrev t_Tx_node0_57 : List UInt8 := 21 :: 5 :: t_Tx_node0_59
abbrev t_Tx_node0_55 : List UInt8 := 21 :: 7 :: t_Tx_node0_57
abbrev t_Tx_node0_52 : List UInt8 := 180 :: 0 :: 26 :: t_Tx_node0_55
abbrev t_Tx_node0_51 : List UInt8 := 42 :: t_Tx_node0_52
abbrev t_Tx_node0_50 : List UInt8 := 79 :: t_Tx_node0_51
abbrev t_Tx_node0_48 : List UInt8 := 21 :: 4 :: t_Tx_node0_50
abbrev t_Tx_node0_46 : List UInt8 := 21 :: 7 :: t_Tx_node0_48
abbrev t_Tx_node0_43 : List UInt8 := 180 :: 0 :: 23 :: t_Tx_node0_46
abbrev t_Tx_node0_42 : List UInt8 := 42 :: t_Tx_node0_43
abbrev t_Tx_node0_41 : List UInt8 := 80 :: t_Tx_node0_42
abbrev t_Tx_node0_40 : List UInt8 := 32 :: t_Tx_node0_41
abbrev t_Tx_node0_38 : List UInt8 := 21 :: 7 :: t_Tx_node0_40
abbrev t_Tx_node0_35 : List UInt8 := 180 :: 0 :: 19 :: t_Tx_node0_38
abbrev t_Tx_node0_34 : List UInt8 := 42 :: t_Tx_node0_35
abbrev t_Tx_node0_33 : List UInt8 := 79 :: t_Tx_node0_34
abbrev t_Tx_node0_32 : List UInt8 := 27 :: t_Tx_node0_33
abbrev t_Tx_node0_30 : List UInt8 := 21 :: 7 :: t_Tx_node0_32
abbrev t_Tx_node0_27 : List UInt8 := 180 :: 0 :: 15 :: t_Tx_node0_30
abbrev t_Tx_node0_26 : List UInt8 := 42 :: t_Tx_node0_27
abbrev t_Tx_node0_24 : List UInt8 := 54 :: 7 :: t_Tx_node0_26
abbrev t_Tx_node0_23 : List UInt8 := 96 :: t_Tx_node0_24
abbrev t_Tx_node0_20 : List UInt8 := 180 :: 0 :: 189 :: t_Tx_node0_23
abbrev t_Tx_node0_19 : List UInt8 := 42 :: t_Tx_node0_20
abbrev t_Tx_node0_16 : List UInt8 := 182 :: 0 :: 195 :: t_Tx_node0_19
abbrev t_Tx_node0_15 : List UInt8 := 42 :: t_Tx_node0_16
abbrev t_Tx_node0_14 : List UInt8 := 172 :: t_Tx_node0_15
abbrev t_Tx_node0_11 : List UInt8 := 182 :: 0 :: 192 :: t_Tx_node0_14
abbrev t_Tx_node0_10 : List UInt8 := 42 :: t_Tx_node0_11
abbrev t_Tx_node0_7 : List UInt8 := 160 :: 0 :: 8 :: t_Tx_node0_10
abbrev t_Tx_node0_4 : List UInt8 := 17 :: 1 :: 44 :: t_Tx_node0_7
abbrev t_Tx_node0_1 : List UInt8 := 180 :: 0 :: 189 :: t_Tx_node0_4
abbrev t_Tx_node0_0 : List UInt8 := 42 :: t_Tx_node0_1
theorem a_Tx_node0_0 : dk_at b_Tx_node0 0 t_Tx_node0_0 := dk_start (by decide +kernel)
theorem a_Tx_node0_1 : dk_at b_Tx_node0 1 t_Tx_node0_1 := dk_go 1 a_Tx_node0_0 rfl
theorem a_Tx_node0_4 : dk_at b_Tx_node0 4 t_Tx_node0_4 := dk_go 3 a_Tx_node0_1 rfl
theorem a_Tx_node0_7 : dk_at b_Tx_node0 7 t_Tx_node0_7 := dk_go 3 a_Tx_node0_4 rfl
theorem a_Tx_node0_10 : dk_at b_Tx_node0 10 t_Tx_node0_10 := dk_go 3 a_Tx_node0_7 rfl
theorem a_Tx_node0_11 : dk_at b_Tx_node0 11 t_Tx_node0_11 := dk_go 1 a_Tx_node0_10 rfl
theorem a_Tx_node0_14 : dk_at b_Tx_node0 14 t_Tx_node0_14 := dk_go 3 a_Tx_node0_11 rfl
theorem a_Tx_node0_15 : dk_at b_Tx_node0 15 t_Tx_node0_15 := dk_go 1 a_Tx_node0_14 rfl
theorem a_Tx_node0_16 : dk_at b_Tx_node0 16 t_Tx_node0_16 := dk_go 1 a_Tx_node0_15 rfl
theorem a_Tx_node0_19 : dk_at b_Tx_node0 19 t_Tx_node0_19 := dk_go 3 a_Tx_node0_16 rfl
theorem a_Tx_node0_20 : dk_at b_Tx_node0 20 t_Tx_node0_20 := dk_go 1 a_Tx_node0_19 rfl
theorem a_Tx_node0_23 : dk_at b_Tx_node0 23 t_Tx_node0_23 := dk_go 3 a_Tx_node0_20 rfl
theorem a_Tx_node0_24 : dk_at b_Tx_node0 24 t_Tx_node0_24 := dk_go 1 a_Tx_node0_23 rfl
theorem a_Tx_node0_26 : dk_at b_Tx_node0 26 t_Tx_node0_26 := dk_go 2 a_Tx_node0_24 rfl
theorem a_Tx_node0_27 : dk_at b_Tx_node0 27 t_Tx_node0_27 := dk_go 1 a_Tx_node0_26 rfl
theorem a_Tx_node0_30 : dk_at b_Tx_node0 30 t_Tx_node0_30 := dk_go 3 a_Tx_node0_27 rfl
theorem a_Tx_node0_32 : dk_at b_Tx_node0 32 t_Tx_node0_32 := dk_go 2 a_Tx_node0_30 rfl
theorem a_Tx_node0_33 : dk_at b_Tx_node0 33 t_Tx_node0_33 := dk_go 1 a_Tx_node0_32 rfl
theorem a_Tx_node0_34 : dk_at b_Tx_node0 34 t_Tx_node0_34 := dk_go 1 a_Tx_node0_33 rfl
theorem a_Tx_node0_35 : dk_at b_Tx_node0 35 t_Tx_node0_35 := dk_go 1 a_Tx_node0_34 rfl
theorem a_Tx_node0_38 : dk_at b_Tx_node0 38 t_Tx_node0_38 := dk_go 3 a_Tx_node0_35 rfl
theorem a_Tx_node0_40 : dk_at b_Tx_node0 40 t_Tx_node0_40 := dk_go 2 a_Tx_node0_38 rfl
theorem a_Tx_node0_41 : dk_at b_Tx_node0 41 t_Tx_node0_41 := dk_go 1 a_Tx_node0_40 rfl
theorem a_Tx_node0_42 : dk_at b_Tx_node0 42 t_Tx_node0_42 := dk_go 1 a_Tx_node0_41 rfl
theorem a_Tx_node0_43 : dk_at b_Tx_node0 43 t_Tx_node0_43 := dk_go 1 a_Tx_node0_42 rfl
theorem a_Tx_node0_46 : dk_at b_Tx_node0 46 t_Tx_node0_46 := dk_go 3 a_Tx_node0_43 rfl
theorem a_Tx_node0_48 : dk_at b_Tx_node0 48 t_Tx_node0_48 := dk_go 2 a_Tx_node0_46 rfl
theorem a_Tx_node0_50 : dk_at b_Tx_node0 50 t_Tx_node0_50 := dk_go 2 a_Tx_node0_48 rfl
theorem a_Tx_node0_51 : dk_at b_Tx_node0 51 t_Tx_node0_51 := dk_go 1 a_Tx_node0_50 rfl
theorem a_Tx_node0_52 : dk_at b_Tx_node0 52 t_Tx_node0_52 := dk_go 1 a_Tx_node0_51 rfl
theorem a_Tx_node0_55 : dk_at b_Tx_node0 55 t_Tx_node0_55 := dk_go 3 a_Tx_node0_52 rfl
theorem a_Tx_node0_57 : dk_at b_Tx_node0 57 t_Tx_node0_57 := dk_go 2 a_Tx_node0_55 rfl
theorem a_Tx_node0_59 : dk_at b_Tx_node0 59 t_Tx_node0_59 := dk_go 2 a_Tx_node0_57 rfl
theorem a_Tx_node0_60 : dk_at b_Tx_node0 60 t_Tx_node0_60 := dk_go 1 a_Tx_node0_59 rfl
theorem a_Tx_node0_61 : dk_at b_Tx_node0 61 t_Tx_node0_61 := dk_go 1 a_Tx_node0_60 rfl
theorem a_Tx_node0_64 : dk_at b_Tx_node0 64 t_Tx_node0_64 := dk_go 3 a_Tx_node0_61 rfl
theorem a_Tx_node0_66 : dk_at b_Tx_node0 66 t_Tx_node0_66 := dk_go 2 a_Tx_node0_64 rfl
theorem a_Tx_node0_67 : dk_at b_Tx_node0 67 t_Tx_node0_67 := dk_go 1 a_Tx_node0_66 rfl
theorem a_Tx_node0_70 : dk_at b_Tx_node0 70 t_Tx_node0_70 := dk_go 3 a_Tx_node0_67 rfl
theorem a_Tx_node0_71 : dk_at b_Tx_node0 71 t_Tx_node0_71 := dk_go 1 a_Tx_node0_70 rfl
theorem a_Tx_node0_72 : dk_at b_Tx_node0 72 t_Tx_node0_72 := dk_go 1 a_Tx_node0_71 rfl
theorem a_Tx_node0_75 : dk_at b_Tx_node0 75 t_Tx_node0_75 := dk_go 3 a_Tx_node0_72 rfl
theorem a_Tx_node0_77 : dk_at b_Tx_node0 77 t_Tx_node0_77 := dk_go 2 a_Tx_node0_75 rfl
theorem a_Tx_node0_78 : dk_at b_Tx_node0 78 t_Tx_node0_78 := dk_go 1 a_Tx_node0_77 rfl
theorem a_Tx_node0_81 : dk_at b_Tx_node0 81 t_Tx_node0_81 := dk_go 3 a_Tx_node0_78 rfl
theorem a_Tx_node0_83 : dk_at b_Tx_node0 83 t_Tx_node0_83 := dk_go 2 a_Tx_node0_81 rfl
theorem a_Tx_node0_84 : dk_at b_Tx_node0 84 t_Tx_node0_84 := dk_go 1 a_Tx_node0_83 rfl
theorem a_Tx_node0_85 : dk_at b_Tx_node0 85 t_Tx_node0_85 := dk_go 1 a_Tx_node0_84 rfl
theorem a_Tx_node0_87 : dk_at b_Tx_node0 87 t_Tx_node0_87 := dk_go 2 a_Tx_node0_85 rfl
theorem a_Tx_node0_89 : dk_at b_Tx_node0 89 t_Tx_node0_89 := dk_go 2 a_Tx_node0_87 rfl
theorem a_Tx_node0_91 : dk_at b_Tx_node0 91 t_Tx_node0_91 := dk_go 2 a_Tx_node0_89 rfl
theorem a_Tx_node0_92 : dk_at b_Tx_node0 92 t_Tx_node0_92 := dk_go 1 a_Tx_node0_91 rfl
theorem a_Tx_node0_95 : dk_at b_Tx_node0 95 t_Tx_node0_95 := dk_go 3 a_Tx_node0_92 rfl
theorem a_Tx_node0_98 : dk_at b_Tx_node0 98 t_Tx_node0_98 := dk_go 3 a_Tx_node0_95 rfl
theorem a_Tx_node0_99 : dk_at b_Tx_node0 99 t_Tx_node0_99 := dk_go 1 a_Tx_node0_98 rfl
theorem a_Tx_node0_102 : dk_at b_Tx_node0 102 t_Tx_node0_102 := dk_go 3 a_Tx_node0_99 rfl
theorem a_Tx_node0_103 : dk_at b_Tx_node0 103 t_Tx_node0_103 := dk_go 1 a_Tx_node0_102 rfl
theorem a_Tx_node0_106 : dk_at b_Tx_node0 106 t_Tx_node0_106 := dk_go 3 a_Tx_node0_103 rfl
theorem a_Tx_node0_107 : dk_at b_Tx_node0 107 t_Tx_node0_107 := dk_go 1 a_Tx_node0_106 rfl
theorem a_Tx_node0_110 : dk_at b_Tx_node0 110 t_Tx_node0_110 := dk_go 3 a_Tx_node0_107 rfl
theorem a_Tx_node0_111 : dk_at b_Tx_node0 111 t_Tx_node0_111 := dk_go 1 a_Tx_node0_110 rfl
theorem a_Tx_node0_112 : dk_at b_Tx_node0 112 t_Tx_node0_112 := dk_go 1 a_Tx_node0_111 rfl
theorem a_Tx_node0_115 : dk_at b_Tx_node0 115 t_Tx_node0_115 := dk_go 3 a_Tx_node0_112 rfl
theorem a_Tx_node0_117 : dk_at b_Tx_node0 117 t_Tx_node0_117 := dk_go 2 a_Tx_node0_115 rfl
theorem a_Tx_node0_118 : dk_at b_Tx_node0 118 t_Tx_node0_118 := dk_go 1 a_Tx_node0_117 rfl
theorem a_Tx_node0_119 : dk_at b_Tx_node0 119 t_Tx_node0_119 := dk_go 1 a_Tx_node0_118 rfl
theorem a_Tx_node0_120 : dk_at b_Tx_node0 120 t_Tx_node0_120 := dk_go 1 a_Tx_node0_119 rfl
theorem a_Tx_node0_121 : dk_at b_Tx_node0 121 t_Tx_node0_121 := dk_go 1 a_Tx_node0_120 rfl
theorem a_Tx_node0_124 : dk_at b_Tx_node0 124 t_Tx_node0_124 := dk_go 3 a_Tx_node0_121 rfl
theorem a_Tx_node0_125 : dk_at b_Tx_node0 125 t_Tx_node0_125 := dk_go 1 a_Tx_node0_124 rfl
theorem a_Tx_node0_126 : dk_at b_Tx_node0 126 t_Tx_node0_126 := dk_go 1 a_Tx_node0_125 rfl
theorem a_Tx_node0_129 : dk_at b_Tx_node0 129 t_Tx_node0_129 := dk_go 3 a_Tx_node0_126 rfl
theorem a_Tx_node0_132 : dk_at b_Tx_node0 132 t_Tx_node0_132 := dk_go 3 a_Tx_node0_129 rfl
theorem a_Tx_node0_135 : dk_at b_Tx_node0 135 t_Tx_node0_135 := dk_go 3 a_Tx_node0_132 rfl
theorem a_Tx_node0_136 : dk_at b_Tx_node0 136 t_Tx_node0_136 := dk_go 1 a_Tx_node0_135 rfl
theorem a_Tx_node0_138 : dk_at b_Tx_node0 138 t_Tx_node0_138 := dk_go 2 a_Tx_node0_136 rfl
theorem a_Tx_node0_141 : dk_at b_Tx_node0 141 t_Tx_node0_141 := dk_go 3 a_Tx_node0_138 rfl
theorem a_Tx_node0_142 : dk_at b_Tx_node0 142 t_Tx_node0_142 := dk_go 1 a_Tx_node0_141 rfl
theorem a_Tx_node0_143 : dk_at b_Tx_node0 143 t_Tx_node0_143 := dk_go 1 a_Tx_node0_142 rfl
theorem a_Tx_node0_146 : dk_at b_Tx_node0 146 t_Tx_node0_146 := dk_go 3 a_Tx_node0_143 rfl
theorem a_Tx_node0_147 : dk_at b_Tx_node0 147 t_Tx_node0_147 := dk_go 1 a_Tx_node0_146 rfl
theorem a_Tx_node0_148 : dk_at b_Tx_node0 148 t_Tx_node0_148 := dk_go 1 a_Tx_node0_147 rfl
theorem a_Tx_node0_151 : dk_at b_Tx_node0 151 t_Tx_node0_151 := dk_go 3 a_Tx_node0_148 rfl
theorem a_Tx_node0_152 : dk_at b_Tx_node0 152 t_Tx_node0_152 := dk_go 1 a_Tx_node0_151 rfl
theorem a_Tx_node0_155 : dk_at b_Tx_node0 155 t_Tx_node0_155 := dk_go 3 a_Tx_node0_152 rfl
theorem a_Tx_node0_156 : dk_at b_Tx_node0 156 t_Tx_node0_156 := dk_go 1 a_Tx_node0_155 rfl
theorem a_Tx_node0_157 : dk_at b_Tx_node0 157 t_Tx_node0_157 := dk_go 1 a_Tx_node0_156 rfl
theorem d_Tx_node0_0 : decode b_Tx_node0 0 = .ok (.aload_n 0, 1) := dk_0 a_Tx_node0_0 (dko_42 _)
theorem d_Tx_node0_1 : decode b_Tx_node0 1 = .ok (.getfield 189, 3) := dk_U2 a_Tx_node0_1 (dko_180 _) rfl
theorem d_Tx_node0_4 : decode b_Tx_node0 4 = .ok (.sipush 300, 3) := dk_S2 a_Tx_node0_4 (dko_17 _) (by decide +kernel)
theorem d_Tx_node0_7 : decode b_Tx_node0 7 = .ok (.if_icmp .ne 8, 3) := dk_S2 a_Tx_node0_7 (dko_160 _) (by decide +kernel)
theorem d_Tx_node0_10 : decode b_Tx_node0 10 = .ok (.aload_n 0, 1) := dk_0 a_Tx_node0_10 (dko_42 _)
theorem d_Tx_node0_11 : decode b_Tx_node0 11 = .ok (.invokevirtual 192, 3) := dk_U2 a_Tx_node0_11 (dko_182 _) rfl
theorem d_Tx_node0_14 : decode b_Tx_node0 14 = .ok (.ireturn, 1) := dk_0 a_Tx_node0_14 (dko_172 _)
theorem d_Tx_node0_15 : decode b_Tx_node0 15 = .ok (.aload_n 0, 1) := dk_0 a_Tx_node0_15 (dko_42 _)
theorem d_Tx_node0_16 : decode b_Tx_node0 16 = .ok (.invokevirtual 195, 3) := dk_U2 a_Tx_node0_16 (dko_182 _) rfl
theorem d_Tx_node0_19 : decode b_Tx_node0 19 = .ok (.aload_n 0, 1) := dk_0 a_Tx_node0_19 (dko_42 _)
theorem d_Tx_node0_20 : decode b_Tx_node0 20 = .ok (.getfield 189, 3) := dk_U2 a_Tx_node0_20 (dko_180 _) rfl
theorem d_Tx_node0_23 : decode b_Tx_node0 23 = .ok (.iadd, 1) := dk_0 a_Tx_node0_23 (dko_96 _)
theorem d_Tx_node0_24 : decode b_Tx_node0 24 = .ok (.istore 7, 2) := dk_U1 a_Tx_node0_24 (dko_54 _) rfl
theorem d_Tx_node0_26 : decode b_Tx_node0 26 = .ok (.aload_n 0, 1) := dk_0 a_Tx_node0_26 (dko_42 _)
theorem d_Tx_node0_27 : decode b_Tx_node0 27 = .ok (.getfield 15, 3) := dk_U2 a_Tx_node0_27 (dko_180 _) rfl
theorem d_Tx_node0_30 : decode b_Tx_node0 30 = .ok (.iload 7, 2) := dk_U1 a_Tx_node0_30 (dko_21 _) rfl
theorem d_Tx_node0_32 : decode b_Tx_node0 32 = .ok (.iload_n 1, 1) := dk_0 a_Tx_node0_32 (dko_27 _)
theorem d_Tx_node0_33 : decode b_Tx_node0 33 = .ok (.iastore, 1) := dk_0 a_Tx_node0_33 (dko_79 _)
theorem d_Tx_node0_34 : decode b_Tx_node0 34 = .ok (.aload_n 0, 1) := dk_0 a_Tx_node0_34 (dko_42 _)
theorem d_Tx_node0_35 : decode b_Tx_node0 35 = .ok (.getfield 19, 3) := dk_U2 a_Tx_node0_35 (dko_180 _) rfl
theorem d_Tx_node0_38 : decode b_Tx_node0 38 = .ok (.iload 7, 2) := dk_U1 a_Tx_node0_38 (dko_21 _) rfl
theorem d_Tx_node0_40 : decode b_Tx_node0 40 = .ok (.lload_n 2, 1) := dk_0 a_Tx_node0_40 (dko_32 _)
theorem d_Tx_node0_41 : decode b_Tx_node0 41 = .ok (.lastore, 1) := dk_0 a_Tx_node0_41 (dko_80 _)
theorem d_Tx_node0_42 : decode b_Tx_node0 42 = .ok (.aload_n 0, 1) := dk_0 a_Tx_node0_42 (dko_42 _)
theorem d_Tx_node0_43 : decode b_Tx_node0 43 = .ok (.getfield 23, 3) := dk_U2 a_Tx_node0_43 (dko_180 _) rfl
theorem d_Tx_node0_46 : decode b_Tx_node0 46 = .ok (.iload 7, 2) := dk_U1 a_Tx_node0_46 (dko_21 _) rfl
theorem d_Tx_node0_48 : decode b_Tx_node0 48 = .ok (.iload 4, 2) := dk_U1 a_Tx_node0_48 (dko_21 _) rfl
theorem d_Tx_node0_50 : decode b_Tx_node0 50 = .ok (.iastore, 1) := dk_0 a_Tx_node0_50 (dko_79 _)
theorem d_Tx_node0_51 : decode b_Tx_node0 51 = .ok (.aload_n 0, 1) := dk_0 a_Tx_node0_51 (dko_42 _)
theorem d_Tx_node0_52 : decode b_Tx_node0 52 = .ok (.getfield 26, 3) := dk_U2 a_Tx_node0_52 (dko_180 _) rfl
theorem d_Tx_node0_55 : decode b_Tx_node0 55 = .ok (.iload 7, 2) := dk_U1 a_Tx_node0_55 (dko_21 _) rfl
theorem d_Tx_node0_57 : decode b_Tx_node0 57 = .ok (.iload 5, 2) := dk_U1 a_Tx_node0_57 (dko_21 _) rfl
theorem d_Tx_node0_59 : decode b_Tx_node0 59 = .ok (.iastore, 1) := dk_0 a_Tx_node0_59 (dko_79 _)
theorem d_Tx_node0_60 : decode b_Tx_node0 60 = .ok (.aload_n 0, 1) := dk_0 a_Tx_node0_60 (dko_42 _)
theorem d_Tx_node0_61 : decode b_Tx_node0 61 = .ok (.getfield 29, 3) := dk_U2 a_Tx_node0_61 (dko_180 _) rfl
theorem d_Tx_node0_64 : decode b_Tx_node0 64 = .ok (.iload 7, 2) := dk_U1 a_Tx_node0_64 (dko_21 _) rfl
theorem d_Tx_node0_66 : decode b_Tx_node0 66 = .ok (.aload_n 0, 1) := dk_0 a_Tx_node0_66 (dko_42 _)
theorem d_Tx_node0_67 : decode b_Tx_node0 67 = .ok (.getfield 198, 3) := dk_U2 a_Tx_node0_67 (dko_180 _) rfl
theorem d_Tx_node0_70 : decode b_Tx_node0 70 = .ok (.iastore, 1) := dk_0 a_Tx_node0_70 (dko_79 _)
theorem d_Tx_node0_71 : decode b_Tx_node0 71 = .ok (.aload_n 0, 1) := dk_0 a_Tx_node0_71 (dko_42 _)
theorem d_Tx_node0_72 : decode b_Tx_node0 72 = .ok (.getfield 32, 3) := dk_U2 a_Tx_node0_72 (dko_180 _) rfl
theorem d_Tx_node0_75 : decode b_Tx_node0 75 = .ok (.iload 7, 2) := dk_U1 a_Tx_node0_75 (dko_21 _) rfl
theorem d_Tx_node0_77 : decode b_Tx_node0 77 = .ok (.aload_n 0, 1) := dk_0 a_Tx_node0_77 (dko_42 _)
theorem d_Tx_node0_78 : decode b_Tx_node0 78 = .ok (.getfield 201, 3) := dk_U2 a_Tx_node0_78 (dko_180 _) rfl
theorem d_Tx_node0_81 : decode b_Tx_node0 81 = .ok (.iload 6, 2) := dk_U1 a_Tx_node0_81 (dko_21 _) rfl
theorem d_Tx_node0_83 : decode b_Tx_node0 83 = .ok (.isub, 1) := dk_0 a_Tx_node0_83 (dko_100 _)
theorem d_Tx_node0_84 : decode b_Tx_node0 84 = .ok (.iastore, 1) := dk_0 a_Tx_node0_84 (dko_79 _)
theorem d_Tx_node0_85 : decode b_Tx_node0 85 = .ok (.iload 6, 2) := dk_U1 a_Tx_node0_85 (dko_21 _) rfl
theorem d_Tx_node0_87 : decode b_Tx_node0 87 = .ok (.istore 8, 2) := dk_U1 a_Tx_node0_87 (dko_54 _) rfl
theorem d_Tx_node0_89 : decode b_Tx_node0 89 = .ok (.iload 8, 2) := dk_U1 a_Tx_node0_89 (dko_21 _) rfl
theorem d_Tx_node0_91 : decode b_Tx_node0 91 = .ok (.aload_n 0, 1) := dk_0 a_Tx_node0_91 (dko_42 _)
theorem d_Tx_node0_92 : decode b_Tx_node0 92 = .ok (.getfield 201, 3) := dk_U2 a_Tx_node0_92 (dko_180 _) rfl
theorem d_Tx_node0_95 : decode b_Tx_node0 95 = .ok (.if_icmp .ge 40, 3) := dk_S2 a_Tx_node0_95 (dko_162 _) (by decide +kernel)
theorem d_Tx_node0_98 : decode b_Tx_node0 98 = .ok (.aload_n 0, 1) := dk_0 a_Tx_node0_98 (dko_42 _)
theorem d_Tx_node0_99 : decode b_Tx_node0 99 = .ok (.getfield 35, 3) := dk_U2 a_Tx_node0_99 (dko_180 _) rfl
theorem d_Tx_node0_102 : decode b_Tx_node0 102 = .ok (.aload_n 0, 1) := dk_0 a_Tx_node0_102 (dko_42 _)
theorem d_Tx_node0_103 : decode b_Tx_node0 103 = .ok (.invokevirtual 195, 3) := dk_U2 a_Tx_node0_103 (dko_182 _) rfl
theorem d_Tx_node0_106 : decode b_Tx_node0 106 = .ok (.aload_n 0, 1) := dk_0 a_Tx_node0_106 (dko_42 _)
theorem d_Tx_node0_107 : decode b_Tx_node0 107 = .ok (.getfield 198, 3) := dk_U2 a_Tx_node0_107 (dko_180 _) rfl
theorem d_Tx_node0_110 : decode b_Tx_node0 110 = .ok (.iadd, 1) := dk_0 a_Tx_node0_110 (dko_96 _)
theorem d_Tx_node0_111 : decode b_Tx_node0 111 = .ok (.aload_n 0, 1) := dk_0 a_Tx_node0_111 (dko_42 _)
theorem d_Tx_node0_112 : decode b_Tx_node0 112 = .ok (.getfield 56, 3) := dk_U2 a_Tx_node0_112 (dko_180 _) rfl
theorem d_Tx_node0_115 : decode b_Tx_node0 115 = .ok (.iload 8, 2) := dk_U1 a_Tx_node0_115 (dko_21 _) rfl
theorem d_Tx_node0_117 : decode b_Tx_node0 117 = .ok (.iaload, 1) := dk_0 a_Tx_node0_117 (dko_46 _)
theorem d_Tx_node0_118 : decode b_Tx_node0 118 = .ok (.iastore, 1) := dk_0 a_Tx_node0_118 (dko_79 _)
theorem d_Tx_node0_119 : decode b_Tx_node0 119 = .ok (.aload_n 0, 1) := dk_0 a_Tx_node0_119 (dko_42 _)
theorem d_Tx_node0_120 : decode b_Tx_node0 120 = .ok (.dup, 1) := dk_0 a_Tx_node0_120 (dko_89 _)
theorem d_Tx_node0_121 : decode b_Tx_node0 121 = .ok (.getfield 198, 3) := dk_U2 a_Tx_node0_121 (dko_180 _) rfl
theorem d_Tx_node0_124 : decode b_Tx_node0 124 = .ok (.iconst 1, 1) := dk_0 a_Tx_node0_124 (dko_4 _)
theorem d_Tx_node0_125 : decode b_Tx_node0 125 = .ok (.iadd, 1) := dk_0 a_Tx_node0_125 (dko_96 _)
theorem d_Tx_node0_126 : decode b_Tx_node0 126 = .ok (.putfield 198, 3) := dk_U2 a_Tx_node0_126 (dko_181 _) rfl
theorem d_Tx_node0_129 : decode b_Tx_node0 129 = .ok (.iinc 8 1, 3) := dk_US a_Tx_node0_129 (dko_132 _) (by decide +kernel)
theorem d_Tx_node0_132 : decode b_Tx_node0 132 = .ok (.goto (-43), 3) := dk_S2 a_Tx_node0_132 (dko_167 _) (by decide +kernel)
theorem d_Tx_node0_135 : decode b_Tx_node0 135 = .ok (.aload_n 0, 1) := dk_0 a_Tx_node0_135 (dko_42 _)
theorem d_Tx_node0_136 : decode b_Tx_node0 136 = .ok (.iload 6, 2) := dk_U1 a_Tx_node0_136 (dko_21 _) rfl
theorem d_Tx_node0_138 : decode b_Tx_node0 138 = .ok (.putfield 201, 3) := dk_U2 a_Tx_node0_138 (dko_181 _) rfl
theorem d_Tx_node0_141 : decode b_Tx_node0 141 = .ok (.aload_n 0, 1) := dk_0 a_Tx_node0_141 (dko_42 _)
theorem d_Tx_node0_142 : decode b_Tx_node0 142 = .ok (.dup, 1) := dk_0 a_Tx_node0_142 (dko_89 _)
theorem d_Tx_node0_143 : decode b_Tx_node0 143 = .ok (.getfield 189, 3) := dk_U2 a_Tx_node0_143 (dko_180 _) rfl
theorem d_Tx_node0_146 : decode b_Tx_node0 146 = .ok (.iconst 1, 1) := dk_0 a_Tx_node0_146 (dko_4 _)
theorem d_Tx_node0_147 : decode b_Tx_node0 147 = .ok (.iadd, 1) := dk_0 a_Tx_node0_147 (dko_96 _)
theorem d_Tx_node0_148 : decode b_Tx_node0 148 = .ok (.putfield 189, 3) := dk_U2 a_Tx_node0_148 (dko_181 _) rfl
theorem d_Tx_node0_151 : decode b_Tx_node0 151 = .ok (.aload_n 0, 1) := dk_0 a_Tx_node0_151 (dko_42 _)
theorem d_Tx_node0_152 : decode b_Tx_node0 152 = .ok (.getfield 189, 3) := dk_U2 a_Tx_node0_152 (dko_180 _) rfl
theorem d_Tx_node0_155 : decode b_Tx_node0 155 = .ok (.iconst 1, 1) := dk_0 a_Tx_node0_155 (dko_4 _)
theorem d_Tx_node0_156 : decode b_Tx_node0 156 = .ok (.isub, 1) := dk_0 a_Tx_node0_156 (dko_100 _)
theorem d_Tx_node0_157 : decode b_Tx_node0 157 = .ok (.ireturn, 1) := dk_0 a_Tx_node0_157 (dko_172 _)
set_option maxHeartbeats 4000000 in
set_option maxRecDepth 100000 in
theorem ok_Tx_node0 (pc : Nat) : OpS mt mi_Tx_node0 pc (cs_Tx_node0 pc) := (os_n (os_n (os_n (os_n (os_n (os_n (os_l (so_aload_n d_Tx_node0_0 rfl)) (os_l (so_get (C := R_Tx) (T := F_Tx) (N := 39) (j := 13) in_Tx rfl (by decide) mw_1593 d_Tx_node0_1))) (os_n (os_l (so_sipush d_Tx_node0_4 (by decide))) (os_n (os_l (so_icne d_Tx_node0_7 (by decide))) (os_l (so_aload_n d_Tx_node0_10 rfl))))) (os_n (os_n (os_l (so_callV (iv := mi_Tx_bad) rfl rfl rfl mw_2255 mw_2257 sl_120 mw_19 mw_2258 ⟨by decide +kernel, by decide +kernel, by decide +kernel⟩ (by decide) d_Tx_node0_11)) (os_l (so_ireturn rfl d_Tx_node0_14))) (os_n (os_l (so_aload_n d_Tx_node0_15 rfl)) (os_n (os_l (so_callV (iv := mi_Tx_base) rfl rfl rfl mw_2306 mw_2308 sl_132 mw_19 mw_2309 ⟨by decide +kernel, by decide +kernel, by decide +kernel⟩ (by decide) d_Tx_node0_16)) (os_l (so_aload_n d_Tx_node0_19 rfl)))))) (os_n (os_n (os_n (os_l (so_get (C := R_Tx) (T := F_Tx) (N := 39) (j := 13) in_Tx rfl (by decide) mw_1593 d_Tx_node0_20)) (os_l (so_iadd d_Tx_node0_23))) (os_n (os_l (so_istore d_Tx_node0_24 (by decide))) (os_n (os_l (so_aload_n d_Tx_node0_26 rfl)) (os_l (so_get (C := R_Tx) (T := F_Tx) (N := 39) (j := 14) in_Tx rfl (by decide) mw_1594 d_Tx_node0_27))))) (os_n (os_n (os_l (so_iload d_Tx_node0_30)) (os_n (os_l (so_iload_n d_Tx_node0_32 rfl)) (os_l (so_iastore d_Tx_node0_33)))) (os_n (os_l (so_aload_n d_Tx_node0_34 rfl)) (os_n (os_l (so_get (C := R_Tx) (T := F_Tx) (N := 39) (j := 15) in_Tx rfl (by decide) mw_1596 d_Tx_node0_35)) (os_l (so_iload d_Tx_node0_38))))))) (os_n (os_n (os_n (os_n (os_l (so_lload_n d_Tx_node0_40 rfl)) (os_l (so_lastore d_Tx_node0_41))) (os_n (os_l (so_aload_n d_Tx_node0_42 rfl)) (os_n (os_l (so_get (C := R_Tx) (T := F_Tx) (N := 39) (j := 16) in_Tx rfl (by decide) mw_1598 d_Tx_node0_43)) (os_l (so_iload d_Tx_node0_46))))) (os_n (os_n (os_l (so_iload d_Tx_node0_48)) (os_n (os_l (so_iastore d_Tx_node0_50)) (os_l (so_aload_n d_Tx_node0_51 rfl)))) (os_n (os_l (so_get (C := R_Tx) (T := F_Tx) (N := 39) (j := 17) in_Tx rfl (by decide) mw_1599 d_Tx_node0_52)) (os_n (os_l (so_iload d_Tx_node0_55)) (os_l (so_iload d_Tx_node0_57)))))) (os_n (os_n (os_n (os_l (so_iastore d_Tx_node0_59)) (os_l (so_aload_n d_Tx_node0_60 rfl))) (os_n (os_l (so_get (C := R_Tx) (T := F_Tx) (N := 39) (j := 18) in_Tx rfl (by decide) mw_1600 d_Tx_node0_61)) (os_n (os_l (so_iload d_Tx_node0_64)) (os_l (so_aload_n d_Tx_node0_66 rfl))))) (os_n (os_n (os_l (so_get (C := R_Tx) (T := F_Tx) (N := 39) (j := 21) in_Tx rfl (by decide) mw_1604 d_Tx_node0_67)) (os_n (os_l (so_iastore d_Tx_node0_70)) (os_l (so_aload_n d_Tx_node0_71 rfl)))) (os_n (os_l (so_get (C := R_Tx) (T := F_Tx) (N := 39) (j := 19) in_Tx rfl (by decide) mw_1601 d_Tx_node0_72)) (os_n (os_l (so_iload d_Tx_node0_75)) (os_l (so_aload_n d_Tx_node0_77 rfl)))))))) (os_n (os_n (os_n (os_n (os_n (os_l (so_get (C := R_Tx) (T := F_Tx) (N := 39) (j := 35) in_Tx rfl (by decide) mw_1623 d_Tx_node0_78)) (os_l (so_iload d_Tx_node0_81))) (os_n (os_l (so_isub d_Tx_node0_83)) (os_n (os_l (so_iastore d_Tx_node0_84)) (os_l (so_iload d_Tx_node0_85))))) (os_n (os_n (os_l (so_istore d_Tx_node0_87 (by decide))) (os_n (os_l (so_iload d_Tx_node0_89)) (os_l (so_aload_n d_Tx_node0_91 rfl)))) (os_n (os_l (so_get (C := R_Tx) (T := F_Tx) (N := 39) (j := 35) in_Tx rfl (by decide) mw_1623 d_Tx_node0_92)) (os_n (os_l (so_icge d_Tx_node0_95 (by decide))) (os_l (so_aload_n d_Tx_node0_98 rfl)))))) (os_n (os_n (os_n (os_l (so_get (C := R_Tx) (T := F_Tx) (N := 39) (j := 20) in_Tx rfl (by decide) mw_1603 d_Tx_node0_99)) (os_l (so_aload_n d_Tx_node0_102 rfl))) (os_n (os_l (so_callV (iv := mi_Tx_base) rfl rfl rfl mw_2306 mw_2308 sl_132 mw_19 mw_2309 ⟨by decide +kernel, by decide +kernel, by decide +kernel⟩ (by decide) d_Tx_node0_103)) (os_n (os_l (so_aload_n d_Tx_node0_106 rfl)) (os_l (so_get (C := R_Tx) (T := F_Tx) (N := 39) (j := 21) in_Tx rfl (by decide) mw_1604 d_Tx_node0_107))))) (os_n (os_n (os_l (so_iadd d_Tx_node0_110)) (os_n (os_l (so_aload_n d_Tx_node0_111 rfl)) (os_l (so_get (C := R_Tx) (T := F_Tx) (N := 39) (j := 34) in_Tx rfl (by decide) mw_1622 d_Tx_node0_112)))) (os_n (os_l (so_iload d_Tx_node0_115)) (os_n (os_l (so_iaload d_Tx_node0_117)) (os_l (so_iastore d_Tx_node0_118))))))) (os_n (os_n (os_n (os_n (os_l (so_aload_n d_Tx_node0_119 rfl)) (os_l (so_dup d_Tx_node0_120))) (os_n (os_l (so_get (C := R_Tx) (T := F_Tx) (N := 39) (j := 21) in_Tx rfl (by decide) mw_1604 d_Tx_node0_121)) (os_n (os_l (so_iconst d_Tx_node0_124 (by decide))) (os_l (so_iadd d_Tx_node0_125))))) (os_n (os_n (os_l (so_putI (C := R_Tx) (T := F_Tx) (N := 39) (j := 21) in_Tx t_Tx_ok n_Tx rfl (by decide) mw_1604 rfl (by decide +kernel) d_Tx_node0_126)) (os_n (os_l (so_iinc d_Tx_node0_129 (by decide) (by decide))) (os_l (so_goto d_Tx_node0_132 (by decide))))) (os_n (os_l (so_aload_n d_Tx_node0_135 rfl)) (os_n (os_l (so_iload d_Tx_node0_136)) (os_l (so_putI (C := R_Tx) (T := F_Tx) (N := 39) (j := 35) in_Tx t_Tx_ok n_Tx rfl (by decide) mw_1623 rfl (by decide +kernel) d_Tx_node0_138)))))) (os_n (os_n (os_n (os_l (so_aload_n d_Tx_node0_141 rfl)) (os_l (so_dup d_Tx_node0_142))) (os_n (os_l (so_get (C := R_Tx) (T := F_Tx) (N := 39) (j := 13) in_Tx rfl (by decide) mw_1593 d_Tx_node0_143)) (os_n (os_l (so_iconst d_Tx_node0_146 (by decide))) (os_l (so_iadd d_Tx_node0_147))))) (os_n (os_n (os_l (so_putI (C := R_Tx) (T := F_Tx) (N := 39) (j := 13) in_Tx t_Tx_ok n_Tx rfl (by decide) mw_1593 rfl (by decide +kernel) d_Tx_node0_148)) (os_n (os_l (so_aload_n d_Tx_node0_151 rfl)) (os_l (so_get (C := R_Tx) (T := F_Tx) (N := 39) (j := 13) in_Tx rfl (by decide) mw_1593 d_Tx_node0_152)))) (os_n (os_l (so_iconst d_Tx_node0_155 (by decide))) (os_n (os_l (so_isub d_Tx_node0_156)) (os_l (so_ireturn rfl d_Tx_node0_157)))))))))
abbrev t_Tx_push_20 : List UInt8 := 177 :: []
abbrev t_Tx_push_17 : List UInt8 := 181 :: 0 :: 201 :: t_Tx_push_20
abbrev t_Tx_push_16 : List UInt8 := 96 :: t_Tx_push_17
abbrev t_Tx_push_15 : List UInt8 := 4 :: t_Tx_push_16
abbrev t_Tx_push_12 : List UInt8 := 180 :: 0 :: 201 :: t_Tx_push_15
abbrev t_Tx_push_11 : List UInt8 := 89 :: t_Tx_push_12
abbrev t_Tx_push_10 : List UInt8 := 42 :: t_Tx_push_11
abbrev t_Tx_push_9 : List UInt8 := 79 :: t_Tx_push_10
abbrev t_Tx_push_8 : List UInt8 := 27 :: t_Tx_push_9
abbrev t_Tx_push_5 : List UInt8 := 180 :: 0 :: 201 :: t_Tx_push_8
abbrev t_Tx_push_4 : List UInt8 := 42 :: t_Tx_push_5
abbrev t_Tx_push_1 : List UInt8 := 180 :: 0 :: 56 :: t_Tx_push_4
abbrev t_Tx_push_0 : List UInt8 := 42 :: t_Tx_push_1
theorem a_Tx_push_0 : dk_at b_Tx_push 0 t_Tx_push_0 := dk_start (by decide +kernel)
theorem a_Tx_push_1 : dk_at b_Tx_push 1 t_Tx_push_1 := dk_go 1 a_Tx_push_0 rfl
theorem a_Tx_push_4 : dk_at b_Tx_push 4 t_Tx_push_4 := dk_go 3 a_Tx_push_1 rfl
theorem a_Tx_push_5 : dk_at b_Tx_push 5 t_Tx_push_5 := dk_go 1 a_Tx_push_4 rfl
theorem a_Tx_push_8 : dk_at b_Tx_push 8 t_Tx_push_8 := dk_go 3 a_Tx_push_5 rfl
theorem a_Tx_push_9 : dk_at b_Tx_push 9 t_Tx_push_9 := dk_go 1 a_Tx_push_8 rfl
theorem a_Tx_push_10 : dk_at b_Tx_push 10 t_Tx_push_10 := dk_go 1 a_Tx_push_9 rfl
theorem a_Tx_push_11 : dk_at b_Tx_push 11 t_Tx_push_11 := dk_go 1 a_Tx_push_10 rfl
theorem a_Tx_push_12 : dk_at b_Tx_push 12 t_Tx_push_12 := dk_go 1 a_Tx_push_11 rfl
theorem a_Tx_push_15 : dk_at b_Tx_push 15 t_Tx_push_15 := dk_go 3 a_Tx_push_12 rfl
theorem a_Tx_push_16 : dk_at b_Tx_push 16 t_Tx_push_16 := dk_go 1 a_Tx_push_15 rfl
theorem a_Tx_push_17 : dk_at b_Tx_push 17 t_Tx_push_17 := dk_go 1 a_Tx_push_16 rfl
theorem a_Tx_push_20 : dk_at b_Tx_push 20 t_Tx_push_20 := dk_go 3 a_Tx_push_17 rfl
theorem d_Tx_push_0 : decode b_Tx_push 0 = .ok (.aload_n 0, 1) := dk_0 a_Tx_push_0 (dko_42 _)
theorem d_Tx_push_1 : decode b_Tx_push 1 = .ok (.getfield 56, 3) := dk_U2 a_Tx_push_1 (dko_180 _) rfl
theorem d_Tx_push_4 : decode b_Tx_push 4 = .ok (.aload_n 0, 1) := dk_0 a_Tx_push_4 (dko_42 _)
theorem d_Tx_push_5 : decode b_Tx_push 5 = .ok (.getfield 201, 3) := dk_U2 a_Tx_push_5 (dko_180 _) rfl
theorem d_Tx_push_8 : decode b_Tx_push 8 = .ok (.iload_n 1, 1) := dk_0 a_Tx_push_8 (dko_27 _)
theorem d_Tx_push_9 : decode b_Tx_push 9 = .ok (.iastore, 1) := dk_0 a_Tx_push_9 (dko_79 _)
theorem d_Tx_push_10 : decode b_Tx_push 10 = .ok (.aload_n 0, 1) := dk_0 a_Tx_push_10 (dko_42 _)
theorem d_Tx_push_11 : decode b_Tx_push 11 = .ok (.dup, 1) := dk_0 a_Tx_push_11 (dko_89 _)
theorem d_Tx_push_12 : decode b_Tx_push 12 = .ok (.getfield 201, 3) := dk_U2 a_Tx_push_12 (dko_180 _) rfl
theorem d_Tx_push_15 : decode b_Tx_push 15 = .ok (.iconst 1, 1) := dk_0 a_Tx_push_15 (dko_4 _)
theorem d_Tx_push_16 : decode b_Tx_push 16 = .ok (.iadd, 1) := dk_0 a_Tx_push_16 (dko_96 _)
theorem d_Tx_push_17 : decode b_Tx_push 17 = .ok (.putfield 201, 3) := dk_U2 a_Tx_push_17 (dko_181 _) rfl
theorem d_Tx_push_20 : decode b_Tx_push 20 = .ok (.return_, 1) := dk_0 a_Tx_push_20 (dko_177 _)
set_option maxHeartbeats 4000000 in
set_option maxRecDepth 100000 in
theorem ok_Tx_push (pc : Nat) : OpS mt mi_Tx_push pc (cs_Tx_push pc) := (os_n (os_n (os_n (os_l (so_aload_n d_Tx_push_0 rfl)) (os_n (os_l (so_get (C := R_Tx) (T := F_Tx) (N := 39) (j := 34) in_Tx rfl (by decide) mw_1622 d_Tx_push_1)) (os_l (so_aload_n d_Tx_push_4 rfl)))) (os_n (os_l (so_get (C := R_Tx) (T := F_Tx) (N := 39) (j := 35) in_Tx rfl (by decide) mw_1623 d_Tx_push_5)) (os_n (os_l (so_iload_n d_Tx_push_8 rfl)) (os_l (so_iastore d_Tx_push_9))))) (os_n (os_n (os_l (so_aload_n d_Tx_push_10 rfl)) (os_n (os_l (so_dup d_Tx_push_11)) (os_l (so_get (C := R_Tx) (T := F_Tx) (N := 39) (j := 35) in_Tx rfl (by decide) mw_1623 d_Tx_push_12)))) (os_n (os_n (os_l (so_iconst d_Tx_push_15 (by decide))) (os_l (so_iadd d_Tx_push_16))) (os_n (os_l (so_putI (C := R_Tx) (T := F_Tx) (N := 39) (j := 35) in_Tx t_Tx_ok n_Tx rfl (by decide) mw_1623 rfl (by decide +kernel) d_Tx_push_17)) (os_l (so_return rfl d_Tx_push_20))))))
abbrev t_Tx_unitIn_11 : List UInt8 := 172 :: []
abbrev t_Tx_unitIn_10 : List UInt8 := 46 :: t_Tx_unitIn_11
abbrev t_Tx_unitIn_9 : List UInt8 := 96 :: t_Tx_unitIn_10
abbrev t_Tx_unitIn_8 : List UInt8 := 27 :: t_Tx_unitIn_9
abbrev t_Tx_unitIn_5 : List UInt8 := 182 :: 0 :: 195 :: t_Tx_unitIn_8
abbrev t_Tx_unitIn_4 : List UInt8 := 42 :: t_Tx_unitIn_5
abbrev t_Tx_unitIn_1 : List UInt8 := 180 :: 0 :: 26 :: t_Tx_unitIn_4
abbrev t_Tx_unitIn_0 : List UInt8 := 42 :: t_Tx_unitIn_1
theorem a_Tx_unitIn_0 : dk_at b_Tx_unitIn 0 t_Tx_unitIn_0 := dk_start (by decide +kernel)
theorem a_Tx_unitIn_1 : dk_at b_Tx_unitIn 1 t_Tx_unitIn_1 := dk_go 1 a_Tx_unitIn_0 rfl
theorem a_Tx_unitIn_4 : dk_at b_Tx_unitIn 4 t_Tx_unitIn_4 := dk_go 3 a_Tx_unitIn_1 rfl
theorem a_Tx_unitIn_5 : dk_at b_Tx_unitIn 5 t_Tx_unitIn_5 := dk_go 1 a_Tx_unitIn_4 rfl
theorem a_Tx_unitIn_8 : dk_at b_Tx_unitIn 8 t_Tx_unitIn_8 := dk_go 3 a_Tx_unitIn_5 rfl
theorem a_Tx_unitIn_9 : dk_at b_Tx_unitIn 9 t_Tx_unitIn_9 := dk_go 1 a_Tx_unitIn_8 rfl
theorem a_Tx_unitIn_10 : dk_at b_Tx_unitIn 10 t_Tx_unitIn_10 := dk_go 1 a_Tx_unitIn_9 rfl
theorem a_Tx_unitIn_11 : dk_at b_Tx_unitIn 11 t_Tx_unitIn_11 := dk_go 1 a_Tx_unitIn_10 rfl
theorem d_Tx_unitIn_0 : decode b_Tx_unitIn 0 = .ok (.aload_n 0, 1) := dk_0 a_Tx_unitIn_0 (dko_42 _)
theorem d_Tx_unitIn_1 : decode b_Tx_unitIn 1 = .ok (.getfield 26, 3) := dk_U2 a_Tx_unitIn_1 (dko_180 _) rfl
theorem d_Tx_unitIn_4 : decode b_Tx_unitIn 4 = .ok (.aload_n 0, 1) := dk_0 a_Tx_unitIn_4 (dko_42 _)
theorem d_Tx_unitIn_5 : decode b_Tx_unitIn 5 = .ok (.invokevirtual 195, 3) := dk_U2 a_Tx_unitIn_5 (dko_182 _) rfl
theorem d_Tx_unitIn_8 : decode b_Tx_unitIn 8 = .ok (.iload_n 1, 1) := dk_0 a_Tx_unitIn_8 (dko_27 _)
theorem d_Tx_unitIn_9 : decode b_Tx_unitIn 9 = .ok (.iadd, 1) := dk_0 a_Tx_unitIn_9 (dko_96 _)
theorem d_Tx_unitIn_10 : decode b_Tx_unitIn 10 = .ok (.iaload, 1) := dk_0 a_Tx_unitIn_10 (dko_46 _)
theorem d_Tx_unitIn_11 : decode b_Tx_unitIn 11 = .ok (.ireturn, 1) := dk_0 a_Tx_unitIn_11 (dko_172 _)
set_option maxHeartbeats 4000000 in
set_option maxRecDepth 100000 in
theorem ok_Tx_unitIn (pc : Nat) : OpS mt mi_Tx_unitIn pc (cs_Tx_unitIn pc) := (os_n (os_n (os_n (os_l (so_aload_n d_Tx_unitIn_0 rfl)) (os_l (so_get (C := R_Tx) (T := F_Tx) (N := 39) (j := 17) in_Tx rfl (by decide) mw_1599 d_Tx_unitIn_1))) (os_n (os_l (so_aload_n d_Tx_unitIn_4 rfl)) (os_l (so_callV (iv := mi_Tx_base) rfl rfl rfl mw_2306 mw_2308 sl_132 mw_19 mw_2309 ⟨by decide +kernel, by decide +kernel, by decide +kernel⟩ (by decide) d_Tx_unitIn_5)))) (os_n (os_n (os_l (so_iload_n d_Tx_unitIn_8 rfl)) (os_l (so_iadd d_Tx_unitIn_9))) (os_n (os_l (so_iaload d_Tx_unitIn_10)) (os_l (so_ireturn rfl d_Tx_unitIn_11)))))
abbrev t_Tx_two_37 : List UInt8 := 172 :: []
abbrev t_Tx_two_34 : List UInt8 := 182 :: 0 :: 208 :: t_Tx_two_37
abbrev t_Tx_two_32 : List UInt8 := 21 :: 5 :: t_Tx_two_34
abbrev t_Tx_two_30 : List UInt8 := 21 :: 4 :: t_Tx_two_32
abbrev t_Tx_two_29 : List UInt8 := 46 :: t_Tx_two_30
abbrev t_Tx_two_28 : List UInt8 := 96 :: t_Tx_two_29
abbrev t_Tx_two_27 : List UInt8 := 28 :: t_Tx_two_28
abbrev t_Tx_two_24 : List UInt8 := 182 :: 0 :: 195 :: t_Tx_two_27
abbrev t_Tx_two_23 : List UInt8 := 42 :: t_Tx_two_24
abbrev t_Tx_two_20 : List UInt8 := 180 :: 0 :: 23 :: t_Tx_two_23
abbrev t_Tx_two_19 : List UInt8 := 42 :: t_Tx_two_20
abbrev t_Tx_two_18 : List UInt8 := 9 :: t_Tx_two_19
abbrev t_Tx_two_17 : List UInt8 := 27 :: t_Tx_two_18
abbrev t_Tx_two_16 : List UInt8 := 42 :: t_Tx_two_17
abbrev t_Tx_two_13 : List UInt8 := 182 :: 0 :: 204 :: t_Tx_two_16
abbrev t_Tx_two_12 : List UInt8 := 29 :: t_Tx_two_13
abbrev t_Tx_two_11 : List UInt8 := 42 :: t_Tx_two_12
abbrev t_Tx_two_8 : List UInt8 := 182 :: 0 :: 204 :: t_Tx_two_11
abbrev t_Tx_two_7 : List UInt8 := 28 :: t_Tx_two_8
abbrev t_Tx_two_6 : List UInt8 := 42 :: t_Tx_two_7
abbrev t_Tx_two_4 : List UInt8 := 54 :: 5 :: t_Tx_two_6
abbrev t_Tx_two_1 : List UInt8 := 180 :: 0 :: 201 :: t_Tx_two_4
abbrev t_Tx_two_0 : List UInt8 := 42 :: t_Tx_two_1
theorem a_Tx_two_0 : dk_at b_Tx_two 0 t_Tx_two_0 := dk_start (by decide +kernel)
theorem a_Tx_two_1 : dk_at b_Tx_two 1 t_Tx_two_1 := dk_go 1 a_Tx_two_0 rfl
theorem a_Tx_two_4 : dk_at b_Tx_two 4 t_Tx_two_4 := dk_go 3 a_Tx_two_1 rfl
theorem a_Tx_two_6 : dk_at b_Tx_two 6 t_Tx_two_6 := dk_go 2 a_Tx_two_4 rfl
theorem a_Tx_two_7 : dk_at b_Tx_two 7 t_Tx_two_7 := dk_go 1 a_Tx_two_6 rfl
theorem a_Tx_two_8 : dk_at b_Tx_two 8 t_Tx_two_8 := dk_go 1 a_Tx_two_7 rfl
theorem a_Tx_two_11 : dk_at b_Tx_two 11 t_Tx_two_11 := dk_go 3 a_Tx_two_8 rfl
theorem a_Tx_two_12 : dk_at b_Tx_two 12 t_Tx_two_12 := dk_go 1 a_Tx_two_11 rfl
theorem a_Tx_two_13 : dk_at b_Tx_two 13 t_Tx_two_13 := dk_go 1 a_Tx_two_12 rfl
theorem a_Tx_two_16 : dk_at b_Tx_two 16 t_Tx_two_16 := dk_go 3 a_Tx_two_13 rfl
theorem a_Tx_two_17 : dk_at b_Tx_two 17 t_Tx_two_17 := dk_go 1 a_Tx_two_16 rfl
theorem a_Tx_two_18 : dk_at b_Tx_two 18 t_Tx_two_18 := dk_go 1 a_Tx_two_17 rfl
theorem a_Tx_two_19 : dk_at b_Tx_two 19 t_Tx_two_19 := dk_go 1 a_Tx_two_18 rfl
theorem a_Tx_two_20 : dk_at b_Tx_two 20 t_Tx_two_20 := dk_go 1 a_Tx_two_19 rfl
theorem a_Tx_two_23 : dk_at b_Tx_two 23 t_Tx_two_23 := dk_go 3 a_Tx_two_20 rfl
theorem a_Tx_two_24 : dk_at b_Tx_two 24 t_Tx_two_24 := dk_go 1 a_Tx_two_23 rfl
theorem a_Tx_two_27 : dk_at b_Tx_two 27 t_Tx_two_27 := dk_go 3 a_Tx_two_24 rfl
theorem a_Tx_two_28 : dk_at b_Tx_two 28 t_Tx_two_28 := dk_go 1 a_Tx_two_27 rfl
theorem a_Tx_two_29 : dk_at b_Tx_two 29 t_Tx_two_29 := dk_go 1 a_Tx_two_28 rfl
theorem a_Tx_two_30 : dk_at b_Tx_two 30 t_Tx_two_30 := dk_go 1 a_Tx_two_29 rfl
theorem a_Tx_two_32 : dk_at b_Tx_two 32 t_Tx_two_32 := dk_go 2 a_Tx_two_30 rfl
theorem a_Tx_two_34 : dk_at b_Tx_two 34 t_Tx_two_34 := dk_go 2 a_Tx_two_32 rfl
theorem a_Tx_two_37 : dk_at b_Tx_two 37 t_Tx_two_37 := dk_go 3 a_Tx_two_34 rfl
theorem d_Tx_two_0 : decode b_Tx_two 0 = .ok (.aload_n 0, 1) := dk_0 a_Tx_two_0 (dko_42 _)
theorem d_Tx_two_1 : decode b_Tx_two 1 = .ok (.getfield 201, 3) := dk_U2 a_Tx_two_1 (dko_180 _) rfl
theorem d_Tx_two_4 : decode b_Tx_two 4 = .ok (.istore 5, 2) := dk_U1 a_Tx_two_4 (dko_54 _) rfl
theorem d_Tx_two_6 : decode b_Tx_two 6 = .ok (.aload_n 0, 1) := dk_0 a_Tx_two_6 (dko_42 _)
theorem d_Tx_two_7 : decode b_Tx_two 7 = .ok (.iload_n 2, 1) := dk_0 a_Tx_two_7 (dko_28 _)
theorem d_Tx_two_8 : decode b_Tx_two 8 = .ok (.invokevirtual 204, 3) := dk_U2 a_Tx_two_8 (dko_182 _) rfl
theorem d_Tx_two_11 : decode b_Tx_two 11 = .ok (.aload_n 0, 1) := dk_0 a_Tx_two_11 (dko_42 _)
theorem d_Tx_two_12 : decode b_Tx_two 12 = .ok (.iload_n 3, 1) := dk_0 a_Tx_two_12 (dko_29 _)
theorem d_Tx_two_13 : decode b_Tx_two 13 = .ok (.invokevirtual 204, 3) := dk_U2 a_Tx_two_13 (dko_182 _) rfl
theorem d_Tx_two_16 : decode b_Tx_two 16 = .ok (.aload_n 0, 1) := dk_0 a_Tx_two_16 (dko_42 _)
theorem d_Tx_two_17 : decode b_Tx_two 17 = .ok (.iload_n 1, 1) := dk_0 a_Tx_two_17 (dko_27 _)
theorem d_Tx_two_18 : decode b_Tx_two 18 = .ok (.lconst 0, 1) := dk_0 a_Tx_two_18 (dko_9 _)
theorem d_Tx_two_19 : decode b_Tx_two 19 = .ok (.aload_n 0, 1) := dk_0 a_Tx_two_19 (dko_42 _)
theorem d_Tx_two_20 : decode b_Tx_two 20 = .ok (.getfield 23, 3) := dk_U2 a_Tx_two_20 (dko_180 _) rfl
theorem d_Tx_two_23 : decode b_Tx_two 23 = .ok (.aload_n 0, 1) := dk_0 a_Tx_two_23 (dko_42 _)
theorem d_Tx_two_24 : decode b_Tx_two 24 = .ok (.invokevirtual 195, 3) := dk_U2 a_Tx_two_24 (dko_182 _) rfl
theorem d_Tx_two_27 : decode b_Tx_two 27 = .ok (.iload_n 2, 1) := dk_0 a_Tx_two_27 (dko_28 _)
theorem d_Tx_two_28 : decode b_Tx_two 28 = .ok (.iadd, 1) := dk_0 a_Tx_two_28 (dko_96 _)
theorem d_Tx_two_29 : decode b_Tx_two 29 = .ok (.iaload, 1) := dk_0 a_Tx_two_29 (dko_46 _)
theorem d_Tx_two_30 : decode b_Tx_two 30 = .ok (.iload 4, 2) := dk_U1 a_Tx_two_30 (dko_21 _) rfl
theorem d_Tx_two_32 : decode b_Tx_two 32 = .ok (.iload 5, 2) := dk_U1 a_Tx_two_32 (dko_21 _) rfl
theorem d_Tx_two_34 : decode b_Tx_two 34 = .ok (.invokevirtual 208, 3) := dk_U2 a_Tx_two_34 (dko_182 _) rfl
theorem d_Tx_two_37 : decode b_Tx_two 37 = .ok (.ireturn, 1) := dk_0 a_Tx_two_37 (dko_172 _)
set_option maxHeartbeats 4000000 in
set_option maxRecDepth 100000 in
theorem ok_Tx_two (pc : Nat) : OpS mt mi_Tx_two pc (cs_Tx_two pc) := (os_n (os_n (os_n (os_n (os_l (so_aload_n d_Tx_two_0 rfl)) (os_l (so_get (C := R_Tx) (T := F_Tx) (N := 39) (j := 35) in_Tx rfl (by decide) mw_1623 d_Tx_two_1))) (os_n (os_l (so_istore d_Tx_two_4 (by decide))) (os_n (os_l (so_aload_n d_Tx_two_6 rfl)) (os_l (so_iload_n d_Tx_two_7 rfl))))) (os_n (os_n (os_l (so_callV (iv := mi_Tx_push) rfl rfl rfl mw_2310 mw_2312 sl_133 mw_19 mw_2313 ⟨by decide +kernel, by decide +kernel, by decide +kernel⟩ (by decide) d_Tx_two_8)) (os_n (os_l (so_aload_n d_Tx_two_11 rfl)) (os_l (so_iload_n d_Tx_two_12 rfl)))) (os_n (os_l (so_callV (iv := mi_Tx_push) rfl rfl rfl mw_2310 mw_2312 sl_133 mw_19 mw_2313 ⟨by decide +kernel, by decide +kernel, by decide +kernel⟩ (by decide) d_Tx_two_13)) (os_n (os_l (so_aload_n d_Tx_two_16 rfl)) (os_l (so_iload_n d_Tx_two_17 rfl)))))) (os_n (os_n (os_n (os_l (so_lconst d_Tx_two_18 (by decide))) (os_n (os_l (so_aload_n d_Tx_two_19 rfl)) (os_l (so_get (C := R_Tx) (T := F_Tx) (N := 39) (j := 16) in_Tx rfl (by decide) mw_1598 d_Tx_two_20)))) (os_n (os_l (so_aload_n d_Tx_two_23 rfl)) (os_n (os_l (so_callV (iv := mi_Tx_base) rfl rfl rfl mw_2306 mw_2308 sl_132 mw_19 mw_2309 ⟨by decide +kernel, by decide +kernel, by decide +kernel⟩ (by decide) d_Tx_two_24)) (os_l (so_iload_n d_Tx_two_27 rfl))))) (os_n (os_n (os_l (so_iadd d_Tx_two_28)) (os_n (os_l (so_iaload d_Tx_two_29)) (os_l (so_iload d_Tx_two_30)))) (os_n (os_l (so_iload d_Tx_two_32)) (os_n (os_l (so_callV (iv := mi_Tx_node0) rfl rfl rfl mw_2302 mw_2304 sl_131 mw_19 mw_2305 ⟨by decide +kernel, by decide +kernel, by decide +kernel⟩ (by decide) d_Tx_two_34)) (os_l (so_ireturn rfl d_Tx_two_37)))))))
abbrev t_Tx_sum_110 : List UInt8 := 172 :: []
abbrev t_Tx_sum_109 : List UInt8 := 27 :: t_Tx_sum_110
abbrev t_Tx_sum_106 : List UInt8 := 167 :: 255 :: 155 :: t_Tx_sum_109
abbrev t_Tx_sum_105 : List UInt8 := 60 :: t_Tx_sum_106
abbrev t_Tx_sum_102 : List UInt8 := 182 :: 0 :: 218 :: t_Tx_sum_105
abbrev t_Tx_sum_99 : List UInt8 := 182 :: 0 :: 215 :: t_Tx_sum_102
abbrev t_Tx_sum_98 : List UInt8 := 27 :: t_Tx_sum_99
abbrev t_Tx_sum_97 : List UInt8 := 42 :: t_Tx_sum_98
abbrev t_Tx_sum_95 : List UInt8 := 21 :: 4 :: t_Tx_sum_97
abbrev t_Tx_sum_94 : List UInt8 := 27 :: t_Tx_sum_95
abbrev t_Tx_sum_93 : List UInt8 := 28 :: t_Tx_sum_94
abbrev t_Tx_sum_92 : List UInt8 := 42 :: t_Tx_sum_93
abbrev t_Tx_sum_91 : List UInt8 := 172 :: t_Tx_sum_92
abbrev t_Tx_sum_90 : List UInt8 := 2 :: t_Tx_sum_91
abbrev t_Tx_sum_87 : List UInt8 := 181 :: 0 :: 159 :: t_Tx_sum_90
abbrev t_Tx_sum_86 : List UInt8 := 29 :: t_Tx_sum_87
abbrev t_Tx_sum_85 : List UInt8 := 42 :: t_Tx_sum_86
abbrev t_Tx_sum_82 : List UInt8 := 159 :: 0 :: 10 :: t_Tx_sum_85
abbrev t_Tx_sum_79 : List UInt8 := 182 :: 0 :: 215 :: t_Tx_sum_82
abbrev t_Tx_sum_77 : List UInt8 := 21 :: 4 :: t_Tx_sum_79
abbrev t_Tx_sum_76 : List UInt8 := 42 :: t_Tx_sum_77
abbrev t_Tx_sum_73 : List UInt8 := 182 :: 0 :: 215 :: t_Tx_sum_76
abbrev t_Tx_sum_72 : List UInt8 := 27 :: t_Tx_sum_73
abbrev t_Tx_sum_71 : List UInt8 := 42 :: t_Tx_sum_72
abbrev t_Tx_sum_70 : List UInt8 := 172 :: t_Tx_sum_71
abbrev t_Tx_sum_69 : List UInt8 := 2 :: t_Tx_sum_70
abbrev t_Tx_sum_66 : List UInt8 := 156 :: 0 :: 5 :: t_Tx_sum_69
abbrev t_Tx_sum_64 : List UInt8 := 21 :: 4 :: t_Tx_sum_66
abbrev t_Tx_sum_62 : List UInt8 := 54 :: 4 :: t_Tx_sum_64
abbrev t_Tx_sum_61 : List UInt8 := 2 :: t_Tx_sum_62
abbrev t_Tx_sum_58 : List UInt8 := 167 :: 0 :: 4 :: t_Tx_sum_61
abbrev t_Tx_sum_55 : List UInt8 := 182 :: 0 :: 212 :: t_Tx_sum_58
abbrev t_Tx_sum_54 : List UInt8 := 42 :: t_Tx_sum_55
abbrev t_Tx_sum_51 : List UInt8 := 153 :: 0 :: 10 :: t_Tx_sum_54
abbrev t_Tx_sum_48 : List UInt8 := 182 :: 0 :: 182 :: t_Tx_sum_51
abbrev t_Tx_sum_47 : List UInt8 := 42 :: t_Tx_sum_48
abbrev t_Tx_sum_46 : List UInt8 := 62 :: t_Tx_sum_47
abbrev t_Tx_sum_43 : List UInt8 := 180 :: 0 :: 69 :: t_Tx_sum_46
abbrev t_Tx_sum_42 : List UInt8 := 42 :: t_Tx_sum_43
abbrev t_Tx_sum_41 : List UInt8 := 61 :: t_Tx_sum_42
abbrev t_Tx_sum_40 : List UInt8 := 6 :: t_Tx_sum_41
abbrev t_Tx_sum_37 : List UInt8 := 167 :: 0 :: 4 :: t_Tx_sum_40
abbrev t_Tx_sum_36 : List UInt8 := 5 :: t_Tx_sum_37
abbrev t_Tx_sum_33 : List UInt8 := 160 :: 0 :: 7 :: t_Tx_sum_36
abbrev t_Tx_sum_31 : List UInt8 := 16 :: 43 :: t_Tx_sum_33
abbrev t_Tx_sum_28 : List UInt8 := 180 :: 0 :: 146 :: t_Tx_sum_31
abbrev t_Tx_sum_27 : List UInt8 := 42 :: t_Tx_sum_28
abbrev t_Tx_sum_24 : List UInt8 := 160 :: 0 :: 85 :: t_Tx_sum_27
abbrev t_Tx_sum_22 : List UInt8 := 16 :: 45 :: t_Tx_sum_24
abbrev t_Tx_sum_19 : List UInt8 := 180 :: 0 :: 146 :: t_Tx_sum_22
abbrev t_Tx_sum_18 : List UInt8 := 42 :: t_Tx_sum_19
abbrev t_Tx_sum_15 : List UInt8 := 159 :: 0 :: 12 :: t_Tx_sum_18
abbrev t_Tx_sum_13 : List UInt8 := 16 :: 43 :: t_Tx_sum_15
abbrev t_Tx_sum_10 : List UInt8 := 180 :: 0 :: 146 :: t_Tx_sum_13
abbrev t_Tx_sum_9 : List UInt8 := 42 :: t_Tx_sum_10
abbrev t_Tx_sum_6 : List UInt8 := 155 :: 0 :: 103 :: t_Tx_sum_9
abbrev t_Tx_sum_5 : List UInt8 := 27 :: t_Tx_sum_6
abbrev t_Tx_sum_4 : List UInt8 := 60 :: t_Tx_sum_5
abbrev t_Tx_sum_1 : List UInt8 := 182 :: 0 :: 212 :: t_Tx_sum_4
abbrev t_Tx_sum_0 : List UInt8 := 42 :: t_Tx_sum_1
theorem a_Tx_sum_0 : dk_at b_Tx_sum 0 t_Tx_sum_0 := dk_start (by decide +kernel)
theorem a_Tx_sum_1 : dk_at b_Tx_sum 1 t_Tx_sum_1 := dk_go 1 a_Tx_sum_0 rfl
theorem a_Tx_sum_4 : dk_at b_Tx_sum 4 t_Tx_sum_4 := dk_go 3 a_Tx_sum_1 rfl
theorem a_Tx_sum_5 : dk_at b_Tx_sum 5 t_Tx_sum_5 := dk_go 1 a_Tx_sum_4 rfl
theorem a_Tx_sum_6 : dk_at b_Tx_sum 6 t_Tx_sum_6 := dk_go 1 a_Tx_sum_5 rfl
theorem a_Tx_sum_9 : dk_at b_Tx_sum 9 t_Tx_sum_9 := dk_go 3 a_Tx_sum_6 rfl
theorem a_Tx_sum_10 : dk_at b_Tx_sum 10 t_Tx_sum_10 := dk_go 1 a_Tx_sum_9 rfl
theorem a_Tx_sum_13 : dk_at b_Tx_sum 13 t_Tx_sum_13 := dk_go 3 a_Tx_sum_10 rfl
theorem a_Tx_sum_15 : dk_at b_Tx_sum 15 t_Tx_sum_15 := dk_go 2 a_Tx_sum_13 rfl
theorem a_Tx_sum_18 : dk_at b_Tx_sum 18 t_Tx_sum_18 := dk_go 3 a_Tx_sum_15 rfl
theorem a_Tx_sum_19 : dk_at b_Tx_sum 19 t_Tx_sum_19 := dk_go 1 a_Tx_sum_18 rfl
theorem a_Tx_sum_22 : dk_at b_Tx_sum 22 t_Tx_sum_22 := dk_go 3 a_Tx_sum_19 rfl
theorem a_Tx_sum_24 : dk_at b_Tx_sum 24 t_Tx_sum_24 := dk_go 2 a_Tx_sum_22 rfl
theorem a_Tx_sum_27 : dk_at b_Tx_sum 27 t_Tx_sum_27 := dk_go 3 a_Tx_sum_24 rfl
theorem a_Tx_sum_28 : dk_at b_Tx_sum 28 t_Tx_sum_28 := dk_go 1 a_Tx_sum_27 rfl
theorem a_Tx_sum_31 : dk_at b_Tx_sum 31 t_Tx_sum_31 := dk_go 3 a_Tx_sum_28 rfl
theorem a_Tx_sum_33 : dk_at b_Tx_sum 33 t_Tx_sum_33 := dk_go 2 a_Tx_sum_31 rfl
theorem a_Tx_sum_36 : dk_at b_Tx_sum 36 t_Tx_sum_36 := dk_go 3 a_Tx_sum_33 rfl
theorem a_Tx_sum_37 : dk_at b_Tx_sum 37 t_Tx_sum_37 := dk_go 1 a_Tx_sum_36 rfl
theorem a_Tx_sum_40 : dk_at b_Tx_sum 40 t_Tx_sum_40 := dk_go 3 a_Tx_sum_37 rfl
theorem a_Tx_sum_41 : dk_at b_Tx_sum 41 t_Tx_sum_41 := dk_go 1 a_Tx_sum_40 rfl
theorem a_Tx_sum_42 : dk_at b_Tx_sum 42 t_Tx_sum_42 := dk_go 1 a_Tx_sum_41 rfl
theorem a_Tx_sum_43 : dk_at b_Tx_sum 43 t_Tx_sum_43 := dk_go 1 a_Tx_sum_42 rfl
theorem a_Tx_sum_46 : dk_at b_Tx_sum 46 t_Tx_sum_46 := dk_go 3 a_Tx_sum_43 rfl
theorem a_Tx_sum_47 : dk_at b_Tx_sum 47 t_Tx_sum_47 := dk_go 1 a_Tx_sum_46 rfl
theorem a_Tx_sum_48 : dk_at b_Tx_sum 48 t_Tx_sum_48 := dk_go 1 a_Tx_sum_47 rfl
theorem a_Tx_sum_51 : dk_at b_Tx_sum 51 t_Tx_sum_51 := dk_go 3 a_Tx_sum_48 rfl
theorem a_Tx_sum_54 : dk_at b_Tx_sum 54 t_Tx_sum_54 := dk_go 3 a_Tx_sum_51 rfl
theorem a_Tx_sum_55 : dk_at b_Tx_sum 55 t_Tx_sum_55 := dk_go 1 a_Tx_sum_54 rfl
theorem a_Tx_sum_58 : dk_at b_Tx_sum 58 t_Tx_sum_58 := dk_go 3 a_Tx_sum_55 rfl
theorem a_Tx_sum_61 : dk_at b_Tx_sum 61 t_Tx_sum_61 := dk_go 3 a_Tx_sum_58 rfl
theorem a_Tx_sum_62 : dk_at b_Tx_sum 62 t_Tx_sum_62 := dk_go 1 a_Tx_sum_61 rfl
theorem a_Tx_sum_64 : dk_at b_Tx_sum 64 t_Tx_sum_64 := dk_go 2 a_Tx_sum_62 rfl
theorem a_Tx_sum_66 : dk_at b_Tx_sum 66 t_Tx_sum_66 := dk_go 2 a_Tx_sum_64 rfl
theorem a_Tx_sum_69 : dk_at b_Tx_sum 69 t_Tx_sum_69 := dk_go 3 a_Tx_sum_66 rfl
theorem a_Tx_sum_70 : dk_at b_Tx_sum 70 t_Tx_sum_70 := dk_go 1 a_Tx_sum_69 rfl
theorem a_Tx_sum_71 : dk_at b_Tx_sum 71 t_Tx_sum_71 := dk_go 1 a_Tx_sum_70 rfl
theorem a_Tx_sum_72 : dk_at b_Tx_sum 72 t_Tx_sum_72 := dk_go 1 a_Tx_sum_71 rfl
theorem a_Tx_sum_73 : dk_at b_Tx_sum 73 t_Tx_sum_73 := dk_go 1 a_Tx_sum_72 rfl
theorem a_Tx_sum_76 : dk_at b_Tx_sum 76 t_Tx_sum_76 := dk_go 3 a_Tx_sum_73 rfl
theorem a_Tx_sum_77 : dk_at b_Tx_sum 77 t_Tx_sum_77 := dk_go 1 a_Tx_sum_76 rfl
theorem a_Tx_sum_79 : dk_at b_Tx_sum 79 t_Tx_sum_79 := dk_go 2 a_Tx_sum_77 rfl
theorem a_Tx_sum_82 : dk_at b_Tx_sum 82 t_Tx_sum_82 := dk_go 3 a_Tx_sum_79 rfl
theorem a_Tx_sum_85 : dk_at b_Tx_sum 85 t_Tx_sum_85 := dk_go 3 a_Tx_sum_82 rfl
theorem a_Tx_sum_86 : dk_at b_Tx_sum 86 t_Tx_sum_86 := dk_go 1 a_Tx_sum_85 rfl
theorem a_Tx_sum_87 : dk_at b_Tx_sum 87 t_Tx_sum_87 := dk_go 1 a_Tx_sum_86 rfl
theorem a_Tx_sum_90 : dk_at b_Tx_sum 90 t_Tx_sum_90 := dk_go 3 a_Tx_sum_87 rfl
theorem a_Tx_sum_91 : dk_at b_Tx_sum 91 t_Tx_sum_91 := dk_go 1 a_Tx_sum_90 rfl
theorem a_Tx_sum_92 : dk_at b_Tx_sum 92 t_Tx_sum_92 := dk_go 1 a_Tx_sum_91 rfl
theorem a_Tx_sum_93 : dk_at b_Tx_sum 93 t_Tx_sum_93 := dk_go 1 a_Tx_sum_92 rfl
theorem a_Tx_sum_94 : dk_at b_Tx_sum 94 t_Tx_sum_94 := dk_go 1 a_Tx_sum_93 rfl
theorem a_Tx_sum_95 : dk_at b_Tx_sum 95 t_Tx_sum_95 := dk_go 1 a_Tx_sum_94 rfl
theorem a_Tx_sum_97 : dk_at b_Tx_sum 97 t_Tx_sum_97 := dk_go 2 a_Tx_sum_95 rfl
theorem a_Tx_sum_98 : dk_at b_Tx_sum 98 t_Tx_sum_98 := dk_go 1 a_Tx_sum_97 rfl
theorem a_Tx_sum_99 : dk_at b_Tx_sum 99 t_Tx_sum_99 := dk_go 1 a_Tx_sum_98 rfl
theorem a_Tx_sum_102 : dk_at b_Tx_sum 102 t_Tx_sum_102 := dk_go 3 a_Tx_sum_99 rfl
theorem a_Tx_sum_105 : dk_at b_Tx_sum 105 t_Tx_sum_105 := dk_go 3 a_Tx_sum_102 rfl
theorem a_Tx_sum_106 : dk_at b_Tx_sum 106 t_Tx_sum_106 := dk_go 1 a_Tx_sum_105 rfl
theorem a_Tx_sum_109 : dk_at b_Tx_sum 109 t_Tx_sum_109 := dk_go 3 a_Tx_sum_106 rfl
theorem a_Tx_sum_110 : dk_at b_Tx_sum 110 t_Tx_sum_110 := dk_go 1 a_Tx_sum_109 rfl
theorem d_Tx_sum_0 : decode b_Tx_sum 0 = .ok (.aload_n 0, 1) := dk_0 a_Tx_sum_0 (dko_42 _)
theorem d_Tx_sum_1 : decode b_Tx_sum 1 = .ok (.invokevirtual 212, 3) := dk_U2 a_Tx_sum_1 (dko_182 _) rfl
theorem d_Tx_sum_4 : decode b_Tx_sum 4 = .ok (.istore_n 1, 1) := dk_0 a_Tx_sum_4 (dko_60 _)
theorem d_Tx_sum_5 : decode b_Tx_sum 5 = .ok (.iload_n 1, 1) := dk_0 a_Tx_sum_5 (dko_27 _)
theorem d_Tx_sum_6 : decode b_Tx_sum 6 = .ok (.ifCond .lt 103, 3) := dk_S2 a_Tx_sum_6 (dko_155 _) (by decide +kernel)
theorem d_Tx_sum_9 : decode b_Tx_sum 9 = .ok (.aload_n 0, 1) := dk_0 a_Tx_sum_9 (dko_42 _)
theorem d_Tx_sum_10 : decode b_Tx_sum 10 = .ok (.getfield 146, 3) := dk_U2 a_Tx_sum_10 (dko_180 _) rfl
theorem d_Tx_sum_13 : decode b_Tx_sum 13 = .ok (.bipush 43, 2) := dk_S1 a_Tx_sum_13 (dko_16 _) (by decide +kernel)
theorem d_Tx_sum_15 : decode b_Tx_sum 15 = .ok (.if_icmp .eq 12, 3) := dk_S2 a_Tx_sum_15 (dko_159 _) (by decide +kernel)
theorem d_Tx_sum_18 : decode b_Tx_sum 18 = .ok (.aload_n 0, 1) := dk_0 a_Tx_sum_18 (dko_42 _)
theorem d_Tx_sum_19 : decode b_Tx_sum 19 = .ok (.getfield 146, 3) := dk_U2 a_Tx_sum_19 (dko_180 _) rfl
theorem d_Tx_sum_22 : decode b_Tx_sum 22 = .ok (.bipush 45, 2) := dk_S1 a_Tx_sum_22 (dko_16 _) (by decide +kernel)
theorem d_Tx_sum_24 : decode b_Tx_sum 24 = .ok (.if_icmp .ne 85, 3) := dk_S2 a_Tx_sum_24 (dko_160 _) (by decide +kernel)
theorem d_Tx_sum_27 : decode b_Tx_sum 27 = .ok (.aload_n 0, 1) := dk_0 a_Tx_sum_27 (dko_42 _)
theorem d_Tx_sum_28 : decode b_Tx_sum 28 = .ok (.getfield 146, 3) := dk_U2 a_Tx_sum_28 (dko_180 _) rfl
theorem d_Tx_sum_31 : decode b_Tx_sum 31 = .ok (.bipush 43, 2) := dk_S1 a_Tx_sum_31 (dko_16 _) (by decide +kernel)
theorem d_Tx_sum_33 : decode b_Tx_sum 33 = .ok (.if_icmp .ne 7, 3) := dk_S2 a_Tx_sum_33 (dko_160 _) (by decide +kernel)
theorem d_Tx_sum_36 : decode b_Tx_sum 36 = .ok (.iconst 2, 1) := dk_0 a_Tx_sum_36 (dko_5 _)
theorem d_Tx_sum_37 : decode b_Tx_sum 37 = .ok (.goto 4, 3) := dk_S2 a_Tx_sum_37 (dko_167 _) (by decide +kernel)
theorem d_Tx_sum_40 : decode b_Tx_sum 40 = .ok (.iconst 3, 1) := dk_0 a_Tx_sum_40 (dko_6 _)
theorem d_Tx_sum_41 : decode b_Tx_sum 41 = .ok (.istore_n 2, 1) := dk_0 a_Tx_sum_41 (dko_61 _)
theorem d_Tx_sum_42 : decode b_Tx_sum 42 = .ok (.aload_n 0, 1) := dk_0 a_Tx_sum_42 (dko_42 _)
theorem d_Tx_sum_43 : decode b_Tx_sum 43 = .ok (.getfield 69, 3) := dk_U2 a_Tx_sum_43 (dko_180 _) rfl
theorem d_Tx_sum_46 : decode b_Tx_sum 46 = .ok (.istore_n 3, 1) := dk_0 a_Tx_sum_46 (dko_62 _)
theorem d_Tx_sum_47 : decode b_Tx_sum 47 = .ok (.aload_n 0, 1) := dk_0 a_Tx_sum_47 (dko_42 _)
theorem d_Tx_sum_48 : decode b_Tx_sum 48 = .ok (.invokevirtual 182, 3) := dk_U2 a_Tx_sum_48 (dko_182 _) rfl
theorem d_Tx_sum_51 : decode b_Tx_sum 51 = .ok (.ifCond .eq 10, 3) := dk_S2 a_Tx_sum_51 (dko_153 _) (by decide +kernel)
theorem d_Tx_sum_54 : decode b_Tx_sum 54 = .ok (.aload_n 0, 1) := dk_0 a_Tx_sum_54 (dko_42 _)
theorem d_Tx_sum_55 : decode b_Tx_sum 55 = .ok (.invokevirtual 212, 3) := dk_U2 a_Tx_sum_55 (dko_182 _) rfl
theorem d_Tx_sum_58 : decode b_Tx_sum 58 = .ok (.goto 4, 3) := dk_S2 a_Tx_sum_58 (dko_167 _) (by decide +kernel)
theorem d_Tx_sum_61 : decode b_Tx_sum 61 = .ok (.iconst (-1), 1) := dk_0 a_Tx_sum_61 (dko_2 _)
theorem d_Tx_sum_62 : decode b_Tx_sum 62 = .ok (.istore 4, 2) := dk_U1 a_Tx_sum_62 (dko_54 _) rfl
theorem d_Tx_sum_64 : decode b_Tx_sum 64 = .ok (.iload 4, 2) := dk_U1 a_Tx_sum_64 (dko_21 _) rfl
theorem d_Tx_sum_66 : decode b_Tx_sum 66 = .ok (.ifCond .ge 5, 3) := dk_S2 a_Tx_sum_66 (dko_156 _) (by decide +kernel)
theorem d_Tx_sum_69 : decode b_Tx_sum 69 = .ok (.iconst (-1), 1) := dk_0 a_Tx_sum_69 (dko_2 _)
theorem d_Tx_sum_70 : decode b_Tx_sum 70 = .ok (.ireturn, 1) := dk_0 a_Tx_sum_70 (dko_172 _)
theorem d_Tx_sum_71 : decode b_Tx_sum 71 = .ok (.aload_n 0, 1) := dk_0 a_Tx_sum_71 (dko_42 _)
theorem d_Tx_sum_72 : decode b_Tx_sum 72 = .ok (.iload_n 1, 1) := dk_0 a_Tx_sum_72 (dko_27 _)
theorem d_Tx_sum_73 : decode b_Tx_sum 73 = .ok (.invokevirtual 215, 3) := dk_U2 a_Tx_sum_73 (dko_182 _) rfl
theorem d_Tx_sum_76 : decode b_Tx_sum 76 = .ok (.aload_n 0, 1) := dk_0 a_Tx_sum_76 (dko_42 _)
theorem d_Tx_sum_77 : decode b_Tx_sum 77 = .ok (.iload 4, 2) := dk_U1 a_Tx_sum_77 (dko_21 _) rfl
theorem d_Tx_sum_79 : decode b_Tx_sum 79 = .ok (.invokevirtual 215, 3) := dk_U2 a_Tx_sum_79 (dko_182 _) rfl
theorem d_Tx_sum_82 : decode b_Tx_sum 82 = .ok (.if_icmp .eq 10, 3) := dk_S2 a_Tx_sum_82 (dko_159 _) (by decide +kernel)
theorem d_Tx_sum_85 : decode b_Tx_sum 85 = .ok (.aload_n 0, 1) := dk_0 a_Tx_sum_85 (dko_42 _)
theorem d_Tx_sum_86 : decode b_Tx_sum 86 = .ok (.iload_n 3, 1) := dk_0 a_Tx_sum_86 (dko_29 _)
theorem d_Tx_sum_87 : decode b_Tx_sum 87 = .ok (.putfield 159, 3) := dk_U2 a_Tx_sum_87 (dko_181 _) rfl
theorem d_Tx_sum_90 : decode b_Tx_sum 90 = .ok (.iconst (-1), 1) := dk_0 a_Tx_sum_90 (dko_2 _)
theorem d_Tx_sum_91 : decode b_Tx_sum 91 = .ok (.ireturn, 1) := dk_0 a_Tx_sum_91 (dko_172 _)
theorem d_Tx_sum_92 : decode b_Tx_sum 92 = .ok (.aload_n 0, 1) := dk_0 a_Tx_sum_92 (dko_42 _)
theorem d_Tx_sum_93 : decode b_Tx_sum 93 = .ok (.iload_n 2, 1) := dk_0 a_Tx_sum_93 (dko_28 _)
theorem d_Tx_sum_94 : decode b_Tx_sum 94 = .ok (.iload_n 1, 1) := dk_0 a_Tx_sum_94 (dko_27 _)
theorem d_Tx_sum_95 : decode b_Tx_sum 95 = .ok (.iload 4, 2) := dk_U1 a_Tx_sum_95 (dko_21 _) rfl
theorem d_Tx_sum_97 : decode b_Tx_sum 97 = .ok (.aload_n 0, 1) := dk_0 a_Tx_sum_97 (dko_42 _)
theorem d_Tx_sum_98 : decode b_Tx_sum 98 = .ok (.iload_n 1, 1) := dk_0 a_Tx_sum_98 (dko_27 _)
theorem d_Tx_sum_99 : decode b_Tx_sum 99 = .ok (.invokevirtual 215, 3) := dk_U2 a_Tx_sum_99 (dko_182 _) rfl
theorem d_Tx_sum_102 : decode b_Tx_sum 102 = .ok (.invokevirtual 218, 3) := dk_U2 a_Tx_sum_102 (dko_182 _) rfl
theorem d_Tx_sum_105 : decode b_Tx_sum 105 = .ok (.istore_n 1, 1) := dk_0 a_Tx_sum_105 (dko_60 _)
theorem d_Tx_sum_106 : decode b_Tx_sum 106 = .ok (.goto (-101), 3) := dk_S2 a_Tx_sum_106 (dko_167 _) (by decide +kernel)
theorem d_Tx_sum_109 : decode b_Tx_sum 109 = .ok (.iload_n 1, 1) := dk_0 a_Tx_sum_109 (dko_27 _)
theorem d_Tx_sum_110 : decode b_Tx_sum 110 = .ok (.ireturn, 1) := dk_0 a_Tx_sum_110 (dko_172 _)
set_option maxHeartbeats 4000000 in
set_option maxRecDepth 100000 in
theorem ok_Tx_sum (pc : Nat) : OpS mt mi_Tx_sum pc (cs_Tx_sum pc) := (os_n (os_n (os_n (os_n (os_n (os_l (so_aload_n d_Tx_sum_0 rfl)) (os_n (os_l (so_callV (iv := mi_Tx_product) rfl rfl rfl mw_2287 mw_2289 sl_128 mw_19 mw_2290 ⟨by decide +kernel, by decide +kernel, by decide +kernel⟩ (by decide) d_Tx_sum_1)) (os_l (so_istore_n d_Tx_sum_4 rfl (by decide))))) (os_n (os_n (os_l (so_iload_n d_Tx_sum_5 rfl)) (os_l (so_iflt d_Tx_sum_6 (by decide)))) (os_n (os_l (so_aload_n d_Tx_sum_9 rfl)) (os_l (so_get (C := R_Tx) (T := F_Tx) (N := 39) (j := 4) in_Tx rfl (by decide) mw_1583 d_Tx_sum_10))))) (os_n (os_n (os_n (os_l (so_bipush d_Tx_sum_13 (by decide))) (os_l (so_iceq d_Tx_sum_15 (by decide)))) (os_n (os_l (so_aload_n d_Tx_sum_18 rfl)) (os_l (so_get (C := R_Tx) (T := F_Tx) (N := 39) (j := 4) in_Tx rfl (by decide) mw_1583 d_Tx_sum_19)))) (os_n (os_n (os_l (so_bipush d_Tx_sum_22 (by decide))) (os_l (so_icne d_Tx_sum_24 (by decide)))) (os_n (os_l (so_aload_n d_Tx_sum_27 rfl)) (os_l (so_get (C := R_Tx) (T := F_Tx) (N := 39) (j := 4) in_Tx rfl (by decide) mw_1583 d_Tx_sum_28)))))) (os_n (os_n (os_n (os_l (so_bipush d_Tx_sum_31 (by decide))) (os_n (os_l (so_icne d_Tx_sum_33 (by decide))) (os_l (so_iconst d_Tx_sum_36 (by decide))))) (os_n (os_n (os_l (so_goto d_Tx_sum_37 (by decide))) (os_l (so_iconst d_Tx_sum_40 (by decide)))) (os_n (os_l (so_istore_n d_Tx_sum_41 rfl (by decide))) (os_l (so_aload_n d_Tx_sum_42 rfl))))) (os_n (os_n (os_n (os_l (so_get (C := R_Tx) (T := F_Tx) (N := 39) (j := 5) in_Tx rfl (by decide) mw_1584 d_Tx_sum_43)) (os_l (so_istore_n d_Tx_sum_46 rfl (by decide)))) (os_n (os_l (so_aload_n d_Tx_sum_47 rfl)) (os_l (so_callV (iv := mi_Tx_go) rfl rfl rfl mw_2182 mw_2184 sl_111 mw_19 mw_2185 ⟨by decide +kernel, by decide +kernel, by decide +kernel⟩ (by decide) d_Tx_sum_48)))) (os_n (os_n (os_l (so_ifeq d_Tx_sum_51 (by decide))) (os_l (so_aload_n d_Tx_sum_54 rfl))) (os_n (os_l (so_callV (iv := mi_Tx_product) rfl rfl rfl mw_2287 mw_2289 sl_128 mw_19 mw_2290 ⟨by decide +kernel, by decide +kernel, by decide +kernel⟩ (by decide) d_Tx_sum_55)) (os_l (so_goto d_Tx_sum_58 (by decide)))))))) (os_n (os_n (os_n (os_n (os_l (so_iconst d_Tx_sum_61 (by decide))) (os_n (os_l (so_istore d_Tx_sum_62 (by decide))) (os_l (so_iload d_Tx_sum_64)))) (os_n (os_n (os_l (so_ifge d_Tx_sum_66 (by decide))) (os_l (so_iconst d_Tx_sum_69 (by decide)))) (os_n (os_l (so_ireturn rfl d_Tx_sum_70)) (os_l (so_aload_n d_Tx_sum_71 rfl))))) (os_n (os_n (os_n (os_l (so_iload_n d_Tx_sum_72 rfl)) (os_l (so_callV (iv := mi_Tx_unitIn) rfl rfl rfl mw_2314 mw_2316 sl_134 mw_19 mw_2317 ⟨by decide +kernel, by decide +kernel, by decide +kernel⟩ (by decide) d_Tx_sum_73))) (os_n (os_l (so_aload_n d_Tx_sum_76 rfl)) (os_l (so_iload d_Tx_sum_77)))) (os_n (os_n (os_l (so_callV (iv := mi_Tx_unitIn) rfl rfl rfl mw_2314 mw_2316 sl_134 mw_19 mw_2317 ⟨by decide +kernel, by decide +kernel, by decide +kernel⟩ (by decide) d_Tx_sum_79)) (os_l (so_iceq d_Tx_sum_82 (by decide)))) (os_n (os_l (so_aload_n d_Tx_sum_85 rfl)) (os_l (so_iload_n d_Tx_sum_86 rfl)))))) (os_n (os_n (os_n (os_l (so_putI (C := R_Tx) (T := F_Tx) (N := 39) (j := 10) in_Tx t_Tx_ok n_Tx rfl (by decide) mw_1589 rfl (by decide +kernel) d_Tx_sum_87)) (os_n (os_l (so_iconst d_Tx_sum_90 (by decide))) (os_l (so_ireturn rfl d_Tx_sum_91)))) (os_n (os_n (os_l (so_aload_n d_Tx_sum_92 rfl)) (os_l (so_iload_n d_Tx_sum_93 rfl))) (os_n (os_l (so_iload_n d_Tx_sum_94 rfl)) (os_l (so_iload d_Tx_sum_95))))) (os_n (os_n (os_n (os_l (so_aload_n d_Tx_sum_97 rfl)) (os_l (so_iload_n d_Tx_sum_98 rfl))) (os_n (os_l (so_callV (iv := mi_Tx_unitIn) rfl rfl rfl mw_2314 mw_2316 sl_134 mw_19 mw_2317 ⟨by decide +kernel, by decide +kernel, by decide +kernel⟩ (by decide) d_Tx_sum_99)) (os_l (so_callV (iv := mi_Tx_two) rfl rfl rfl mw_2318 mw_2320 sl_135 mw_19 mw_2321 ⟨by decide +kernel, by decide +kernel, by decide +kernel⟩ (by decide) d_Tx_sum_102)))) (os_n (os_n (os_l (so_istore_n d_Tx_sum_105 rfl (by decide))) (os_l (so_goto d_Tx_sum_106 (by decide)))) (os_n (os_l (so_iload_n d_Tx_sum_109 rfl)) (os_l (so_ireturn rfl d_Tx_sum_110))))))))
abbrev t_Tx_product_167 : List UInt8 := 172 :: []
abbrev t_Tx_product_166 : List UInt8 := 27 :: t_Tx_product_167
abbrev t_Tx_product_163 : List UInt8 := 167 :: 255 :: 98 :: t_Tx_product_166
abbrev t_Tx_product_162 : List UInt8 := 60 :: t_Tx_product_163
abbrev t_Tx_product_159 : List UInt8 := 182 :: 0 :: 218 :: t_Tx_product_162
abbrev t_Tx_product_157 : List UInt8 := 21 :: 7 :: t_Tx_product_159
abbrev t_Tx_product_155 : List UInt8 := 21 :: 4 :: t_Tx_product_157
abbrev t_Tx_product_154 : List UInt8 := 27 :: t_Tx_product_155
abbrev t_Tx_product_153 : List UInt8 := 28 :: t_Tx_product_154
abbrev t_Tx_product_152 : List UInt8 := 42 :: t_Tx_product_153
abbrev t_Tx_product_151 : List UInt8 := 172 :: t_Tx_product_152
abbrev t_Tx_product_150 : List UInt8 := 2 :: t_Tx_product_151
abbrev t_Tx_product_147 : List UInt8 := 181 :: 0 :: 159 :: t_Tx_product_150
abbrev t_Tx_product_146 : List UInt8 := 29 :: t_Tx_product_147
abbrev t_Tx_product_145 : List UInt8 := 42 :: t_Tx_product_146
abbrev t_Tx_product_142 : List UInt8 := 160 :: 0 :: 10 :: t_Tx_product_145
abbrev t_Tx_product_141 : List UInt8 := 2 :: t_Tx_product_142
abbrev t_Tx_product_139 : List UInt8 := 21 :: 7 :: t_Tx_product_141
abbrev t_Tx_product_137 : List UInt8 := 54 :: 7 :: t_Tx_product_139
abbrev t_Tx_product_136 : List UInt8 := 2 :: t_Tx_product_137
abbrev t_Tx_product_133 : List UInt8 := 167 :: 0 :: 4 :: t_Tx_product_136
abbrev t_Tx_product_132 : List UInt8 := 3 :: t_Tx_product_133
abbrev t_Tx_product_129 : List UInt8 := 160 :: 0 :: 7 :: t_Tx_product_132
abbrev t_Tx_product_127 : List UInt8 := 21 :: 6 :: t_Tx_product_129
abbrev t_Tx_product_125 : List UInt8 := 21 :: 5 :: t_Tx_product_127
abbrev t_Tx_product_122 : List UInt8 := 167 :: 0 :: 15 :: t_Tx_product_125
abbrev t_Tx_product_120 : List UInt8 := 21 :: 5 :: t_Tx_product_122
abbrev t_Tx_product_117 : List UInt8 := 154 :: 0 :: 8 :: t_Tx_product_120
abbrev t_Tx_product_115 : List UInt8 := 21 :: 6 :: t_Tx_product_117
abbrev t_Tx_product_112 : List UInt8 := 167 :: 0 :: 25 :: t_Tx_product_115
abbrev t_Tx_product_111 : List UInt8 := 2 :: t_Tx_product_112
abbrev t_Tx_product_108 : List UInt8 := 167 :: 0 :: 29 :: t_Tx_product_111
abbrev t_Tx_product_106 : List UInt8 := 21 :: 5 :: t_Tx_product_108
abbrev t_Tx_product_103 : List UInt8 := 154 :: 0 :: 8 :: t_Tx_product_106
abbrev t_Tx_product_101 : List UInt8 := 21 :: 6 :: t_Tx_product_103
abbrev t_Tx_product_98 : List UInt8 := 167 :: 0 :: 39 :: t_Tx_product_101
abbrev t_Tx_product_96 : List UInt8 := 21 :: 6 :: t_Tx_product_98
abbrev t_Tx_product_93 : List UInt8 := 154 :: 0 :: 8 :: t_Tx_product_96
abbrev t_Tx_product_91 : List UInt8 := 21 :: 5 :: t_Tx_product_93
abbrev t_Tx_product_88 : List UInt8 := 160 :: 0 :: 27 :: t_Tx_product_91
abbrev t_Tx_product_87 : List UInt8 := 7 :: t_Tx_product_88
abbrev t_Tx_product_86 : List UInt8 := 28 :: t_Tx_product_87
abbrev t_Tx_product_84 : List UInt8 := 54 :: 6 :: t_Tx_product_86
abbrev t_Tx_product_81 : List UInt8 := 182 :: 0 :: 215 :: t_Tx_product_84
abbrev t_Tx_product_79 : List UInt8 := 21 :: 4 :: t_Tx_product_81
abbrev t_Tx_product_78 : List UInt8 := 42 :: t_Tx_product_79
abbrev t_Tx_product_76 : List UInt8 := 54 :: 5 :: t_Tx_product_78
abbrev t_Tx_product_73 : List UInt8 := 182 :: 0 :: 215 :: t_Tx_product_76
abbrev t_Tx_product_72 : List UInt8 := 27 :: t_Tx_product_73
abbrev t_Tx_product_71 : List UInt8 := 42 :: t_Tx_product_72
abbrev t_Tx_product_70 : List UInt8 := 172 :: t_Tx_product_71
abbrev t_Tx_product_69 : List UInt8 := 2 :: t_Tx_product_70
abbrev t_Tx_product_66 : List UInt8 := 156 :: 0 :: 5 :: t_Tx_product_69
abbrev t_Tx_product_64 : List UInt8 := 21 :: 4 :: t_Tx_product_66
abbrev t_Tx_product_62 : List UInt8 := 54 :: 4 :: t_Tx_product_64
abbrev t_Tx_product_61 : List UInt8 := 2 :: t_Tx_product_62
abbrev t_Tx_product_58 : List UInt8 := 167 :: 0 :: 4 :: t_Tx_product_61
abbrev t_Tx_product_55 : List UInt8 := 182 :: 0 :: 222 :: t_Tx_product_58
abbrev t_Tx_product_54 : List UInt8 := 42 :: t_Tx_product_55
abbrev t_Tx_product_51 : List UInt8 := 153 :: 0 :: 10 :: t_Tx_product_54
abbrev t_Tx_product_48 : List UInt8 := 182 :: 0 :: 182 :: t_Tx_product_51
abbrev t_Tx_product_47 : List UInt8 := 42 :: t_Tx_product_48
abbrev t_Tx_product_46 : List UInt8 := 62 :: t_Tx_product_47
abbrev t_Tx_product_43 : List UInt8 := 180 :: 0 :: 69 :: t_Tx_product_46
abbrev t_Tx_product_42 : List UInt8 := 42 :: t_Tx_product_43
abbrev t_Tx_product_41 : List UInt8 := 61 :: t_Tx_product_42
abbrev t_Tx_product_40 : List UInt8 := 8 :: t_Tx_product_41
abbrev t_Tx_product_37 : List UInt8 := 167 :: 0 :: 4 :: t_Tx_product_40
abbrev t_Tx_product_36 : List UInt8 := 7 :: t_Tx_product_37
abbrev t_Tx_product_33 : List UInt8 := 160 :: 0 :: 7 :: t_Tx_product_36
abbrev t_Tx_product_31 : List UInt8 := 16 :: 42 :: t_Tx_product_33
abbrev t_Tx_product_28 : List UInt8 := 180 :: 0 :: 146 :: t_Tx_product_31
abbrev t_Tx_product_27 : List UInt8 := 42 :: t_Tx_product_28
abbrev t_Tx_product_24 : List UInt8 := 160 :: 0 :: 142 :: t_Tx_product_27
abbrev t_Tx_product_22 : List UInt8 := 16 :: 47 :: t_Tx_product_24
abbrev t_Tx_product_19 : List UInt8 := 180 :: 0 :: 146 :: t_Tx_product_22
abbrev t_Tx_product_18 : List UInt8 := 42 :: t_Tx_product_19
abbrev t_Tx_product_15 : List UInt8 := 159 :: 0 :: 12 :: t_Tx_product_18
abbrev t_Tx_product_13 : List UInt8 := 16 :: 42 :: t_Tx_product_15
abbrev t_Tx_product_10 : List UInt8 := 180 :: 0 :: 146 :: t_Tx_product_13
abbrev t_Tx_product_9 : List UInt8 := 42 :: t_Tx_product_10
abbrev t_Tx_product_6 : List UInt8 := 155 :: 0 :: 160 :: t_Tx_product_9
abbrev t_Tx_product_5 : List UInt8 := 27 :: t_Tx_product_6
abbrev t_Tx_product_4 : List UInt8 := 60 :: t_Tx_product_5
abbrev t_Tx_product_1 : List UInt8 := 182 :: 0 :: 222 :: t_Tx_product_4
abbrev t_Tx_product_0 : List UInt8 := 42 :: t_Tx_product_1
theorem a_Tx_product_0 : dk_at b_Tx_product 0 t_Tx_product_0 := dk_start (by decide +kernel)
theorem a_Tx_product_1 : dk_at b_Tx_product 1 t_Tx_product_1 := dk_go 1 a_Tx_product_0 rfl
theorem a_Tx_product_4 : dk_at b_Tx_product 4 t_Tx_product_4 := dk_go 3 a_Tx_product_1 rfl
theorem a_Tx_product_5 : dk_at b_Tx_product 5 t_Tx_product_5 := dk_go 1 a_Tx_product_4 rfl
theorem a_Tx_product_6 : dk_at b_Tx_product 6 t_Tx_product_6 := dk_go 1 a_Tx_product_5 rfl
theorem a_Tx_product_9 : dk_at b_Tx_product 9 t_Tx_product_9 := dk_go 3 a_Tx_product_6 rfl
theorem a_Tx_product_10 : dk_at b_Tx_product 10 t_Tx_product_10 := dk_go 1 a_Tx_product_9 rfl
theorem a_Tx_product_13 : dk_at b_Tx_product 13 t_Tx_product_13 := dk_go 3 a_Tx_product_10 rfl
theorem a_Tx_product_15 : dk_at b_Tx_product 15 t_Tx_product_15 := dk_go 2 a_Tx_product_13 rfl
theorem a_Tx_product_18 : dk_at b_Tx_product 18 t_Tx_product_18 := dk_go 3 a_Tx_product_15 rfl
theorem a_Tx_product_19 : dk_at b_Tx_product 19 t_Tx_product_19 := dk_go 1 a_Tx_product_18 rfl
theorem a_Tx_product_22 : dk_at b_Tx_product 22 t_Tx_product_22 := dk_go 3 a_Tx_product_19 rfl
theorem a_Tx_product_24 : dk_at b_Tx_product 24 t_Tx_product_24 := dk_go 2 a_Tx_product_22 rfl
theorem a_Tx_product_27 : dk_at b_Tx_product 27 t_Tx_product_27 := dk_go 3 a_Tx_product_24 rfl
theorem a_Tx_product_28 : dk_at b_Tx_product 28 t_Tx_product_28 := dk_go 1 a_Tx_product_27 rfl
theorem a_Tx_product_31 : dk_at b_Tx_product 31 t_Tx_product_31 := dk_go 3 a_Tx_product_28 rfl
theorem a_Tx_product_33 : dk_at b_Tx_product 33 t_Tx_product_33 := dk_go 2 a_Tx_product_31 rfl
theorem a_Tx_product_36 : dk_at b_Tx_product 36 t_Tx_product_36 := dk_go 3 a_Tx_product_33 rfl
theorem a_Tx_product_37 : dk_at b_Tx_product 37 t_Tx_product_37 := dk_go 1 a_Tx_product_36 rfl
theorem a_Tx_product_40 : dk_at b_Tx_product 40 t_Tx_product_40 := dk_go 3 a_Tx_product_37 rfl
theorem a_Tx_product_41 : dk_at b_Tx_product 41 t_Tx_product_41 := dk_go 1 a_Tx_product_40 rfl
theorem a_Tx_product_42 : dk_at b_Tx_product 42 t_Tx_product_42 := dk_go 1 a_Tx_product_41 rfl
theorem a_Tx_product_43 : dk_at b_Tx_product 43 t_Tx_product_43 := dk_go 1 a_Tx_product_42 rfl
theorem a_Tx_product_46 : dk_at b_Tx_product 46 t_Tx_product_46 := dk_go 3 a_Tx_product_43 rfl
theorem a_Tx_product_47 : dk_at b_Tx_product 47 t_Tx_product_47 := dk_go 1 a_Tx_product_46 rfl
theorem a_Tx_product_48 : dk_at b_Tx_product 48 t_Tx_product_48 := dk_go 1 a_Tx_product_47 rfl
theorem a_Tx_product_51 : dk_at b_Tx_product 51 t_Tx_product_51 := dk_go 3 a_Tx_product_48 rfl
theorem a_Tx_product_54 : dk_at b_Tx_product 54 t_Tx_product_54 := dk_go 3 a_Tx_product_51 rfl
theorem a_Tx_product_55 : dk_at b_Tx_product 55 t_Tx_product_55 := dk_go 1 a_Tx_product_54 rfl
theorem a_Tx_product_58 : dk_at b_Tx_product 58 t_Tx_product_58 := dk_go 3 a_Tx_product_55 rfl
theorem a_Tx_product_61 : dk_at b_Tx_product 61 t_Tx_product_61 := dk_go 3 a_Tx_product_58 rfl
theorem a_Tx_product_62 : dk_at b_Tx_product 62 t_Tx_product_62 := dk_go 1 a_Tx_product_61 rfl
theorem a_Tx_product_64 : dk_at b_Tx_product 64 t_Tx_product_64 := dk_go 2 a_Tx_product_62 rfl
theorem a_Tx_product_66 : dk_at b_Tx_product 66 t_Tx_product_66 := dk_go 2 a_Tx_product_64 rfl
theorem a_Tx_product_69 : dk_at b_Tx_product 69 t_Tx_product_69 := dk_go 3 a_Tx_product_66 rfl
theorem a_Tx_product_70 : dk_at b_Tx_product 70 t_Tx_product_70 := dk_go 1 a_Tx_product_69 rfl
theorem a_Tx_product_71 : dk_at b_Tx_product 71 t_Tx_product_71 := dk_go 1 a_Tx_product_70 rfl
theorem a_Tx_product_72 : dk_at b_Tx_product 72 t_Tx_product_72 := dk_go 1 a_Tx_product_71 rfl
theorem a_Tx_product_73 : dk_at b_Tx_product 73 t_Tx_product_73 := dk_go 1 a_Tx_product_72 rfl
theorem a_Tx_product_76 : dk_at b_Tx_product 76 t_Tx_product_76 := dk_go 3 a_Tx_product_73 rfl
theorem a_Tx_product_78 : dk_at b_Tx_product 78 t_Tx_product_78 := dk_go 2 a_Tx_product_76 rfl
theorem a_Tx_product_79 : dk_at b_Tx_product 79 t_Tx_product_79 := dk_go 1 a_Tx_product_78 rfl
theorem a_Tx_product_81 : dk_at b_Tx_product 81 t_Tx_product_81 := dk_go 2 a_Tx_product_79 rfl
theorem a_Tx_product_84 : dk_at b_Tx_product 84 t_Tx_product_84 := dk_go 3 a_Tx_product_81 rfl
theorem a_Tx_product_86 : dk_at b_Tx_product 86 t_Tx_product_86 := dk_go 2 a_Tx_product_84 rfl
theorem a_Tx_product_87 : dk_at b_Tx_product 87 t_Tx_product_87 := dk_go 1 a_Tx_product_86 rfl
theorem a_Tx_product_88 : dk_at b_Tx_product 88 t_Tx_product_88 := dk_go 1 a_Tx_product_87 rfl
theorem a_Tx_product_91 : dk_at b_Tx_product 91 t_Tx_product_91 := dk_go 3 a_Tx_product_88 rfl
theorem a_Tx_product_93 : dk_at b_Tx_product 93 t_Tx_product_93 := dk_go 2 a_Tx_product_91 rfl
theorem a_Tx_product_96 : dk_at b_Tx_product 96 t_Tx_product_96 := dk_go 3 a_Tx_product_93 rfl
theorem a_Tx_product_98 : dk_at b_Tx_product 98 t_Tx_product_98 := dk_go 2 a_Tx_product_96 rfl
theorem a_Tx_product_101 : dk_at b_Tx_product 101 t_Tx_product_101 := dk_go 3 a_Tx_product_98 rfl
theorem a_Tx_product_103 : dk_at b_Tx_product 103 t_Tx_product_103 := dk_go 2 a_Tx_product_101 rfl
theorem a_Tx_product_106 : dk_at b_Tx_product 106 t_Tx_product_106 := dk_go 3 a_Tx_product_103 rfl
theorem a_Tx_product_108 : dk_at b_Tx_product 108 t_Tx_product_108 := dk_go 2 a_Tx_product_106 rfl
theorem a_Tx_product_111 : dk_at b_Tx_product 111 t_Tx_product_111 := dk_go 3 a_Tx_product_108 rfl
theorem a_Tx_product_112 : dk_at b_Tx_product 112 t_Tx_product_112 := dk_go 1 a_Tx_product_111 rfl
theorem a_Tx_product_115 : dk_at b_Tx_product 115 t_Tx_product_115 := dk_go 3 a_Tx_product_112 rfl
theorem a_Tx_product_117 : dk_at b_Tx_product 117 t_Tx_product_117 := dk_go 2 a_Tx_product_115 rfl
theorem a_Tx_product_120 : dk_at b_Tx_product 120 t_Tx_product_120 := dk_go 3 a_Tx_product_117 rfl
theorem a_Tx_product_122 : dk_at b_Tx_product 122 t_Tx_product_122 := dk_go 2 a_Tx_product_120 rfl
theorem a_Tx_product_125 : dk_at b_Tx_product 125 t_Tx_product_125 := dk_go 3 a_Tx_product_122 rfl
theorem a_Tx_product_127 : dk_at b_Tx_product 127 t_Tx_product_127 := dk_go 2 a_Tx_product_125 rfl
theorem a_Tx_product_129 : dk_at b_Tx_product 129 t_Tx_product_129 := dk_go 2 a_Tx_product_127 rfl
theorem a_Tx_product_132 : dk_at b_Tx_product 132 t_Tx_product_132 := dk_go 3 a_Tx_product_129 rfl
theorem a_Tx_product_133 : dk_at b_Tx_product 133 t_Tx_product_133 := dk_go 1 a_Tx_product_132 rfl
theorem a_Tx_product_136 : dk_at b_Tx_product 136 t_Tx_product_136 := dk_go 3 a_Tx_product_133 rfl
theorem a_Tx_product_137 : dk_at b_Tx_product 137 t_Tx_product_137 := dk_go 1 a_Tx_product_136 rfl
theorem a_Tx_product_139 : dk_at b_Tx_product 139 t_Tx_product_139 := dk_go 2 a_Tx_product_137 rfl
theorem a_Tx_product_141 : dk_at b_Tx_product 141 t_Tx_product_141 := dk_go 2 a_Tx_product_139 rfl
theorem a_Tx_product_142 : dk_at b_Tx_product 142 t_Tx_product_142 := dk_go 1 a_Tx_product_141 rfl
theorem a_Tx_product_145 : dk_at b_Tx_product 145 t_Tx_product_145 := dk_go 3 a_Tx_product_142 rfl
theorem a_Tx_product_146 : dk_at b_Tx_product 146 t_Tx_product_146 := dk_go 1 a_Tx_product_145 rfl
theorem a_Tx_product_147 : dk_at b_Tx_product 147 t_Tx_product_147 := dk_go 1 a_Tx_product_146 rfl
theorem a_Tx_product_150 : dk_at b_Tx_product 150 t_Tx_product_150 := dk_go 3 a_Tx_product_147 rfl
theorem a_Tx_product_151 : dk_at b_Tx_product 151 t_Tx_product_151 := dk_go 1 a_Tx_product_150 rfl
theorem a_Tx_product_152 : dk_at b_Tx_product 152 t_Tx_product_152 := dk_go 1 a_Tx_product_151 rfl
theorem a_Tx_product_153 : dk_at b_Tx_product 153 t_Tx_product_153 := dk_go 1 a_Tx_product_152 rfl
theorem a_Tx_product_154 : dk_at b_Tx_product 154 t_Tx_product_154 := dk_go 1 a_Tx_product_153 rfl
theorem a_Tx_product_155 : dk_at b_Tx_product 155 t_Tx_product_155 := dk_go 1 a_Tx_product_154 rfl
theorem a_Tx_product_157 : dk_at b_Tx_product 157 t_Tx_product_157 := dk_go 2 a_Tx_product_155 rfl
theorem a_Tx_product_159 : dk_at b_Tx_product 159 t_Tx_product_159 := dk_go 2 a_Tx_product_157 rfl
theorem a_Tx_product_162 : dk_at b_Tx_product 162 t_Tx_product_162 := dk_go 3 a_Tx_product_159 rfl
theorem a_Tx_product_163 : dk_at b_Tx_product 163 t_Tx_product_163 := dk_go 1 a_Tx_product_162 rfl
theorem a_Tx_product_166 : dk_at b_Tx_product 166 t_Tx_product_166 := dk_go 3 a_Tx_product_163 rfl
theorem a_Tx_product_167 : dk_at b_Tx_product 167 t_Tx_product_167 := dk_go 1 a_Tx_product_166 rfl
theorem d_Tx_product_0 : decode b_Tx_product 0 = .ok (.aload_n 0, 1) := dk_0 a_Tx_product_0 (dko_42 _)
theorem d_Tx_product_1 : decode b_Tx_product 1 = .ok (.invokevirtual 222, 3) := dk_U2 a_Tx_product_1 (dko_182 _) rfl
theorem d_Tx_product_4 : decode b_Tx_product 4 = .ok (.istore_n 1, 1) := dk_0 a_Tx_product_4 (dko_60 _)
theorem d_Tx_product_5 : decode b_Tx_product 5 = .ok (.iload_n 1, 1) := dk_0 a_Tx_product_5 (dko_27 _)
theorem d_Tx_product_6 : decode b_Tx_product 6 = .ok (.ifCond .lt 160, 3) := dk_S2 a_Tx_product_6 (dko_155 _) (by decide +kernel)
theorem d_Tx_product_9 : decode b_Tx_product 9 = .ok (.aload_n 0, 1) := dk_0 a_Tx_product_9 (dko_42 _)
theorem d_Tx_product_10 : decode b_Tx_product 10 = .ok (.getfield 146, 3) := dk_U2 a_Tx_product_10 (dko_180 _) rfl
theorem d_Tx_product_13 : decode b_Tx_product 13 = .ok (.bipush 42, 2) := dk_S1 a_Tx_product_13 (dko_16 _) (by decide +kernel)
theorem d_Tx_product_15 : decode b_Tx_product 15 = .ok (.if_icmp .eq 12, 3) := dk_S2 a_Tx_product_15 (dko_159 _) (by decide +kernel)
theorem d_Tx_product_18 : decode b_Tx_product 18 = .ok (.aload_n 0, 1) := dk_0 a_Tx_product_18 (dko_42 _)
theorem d_Tx_product_19 : decode b_Tx_product 19 = .ok (.getfield 146, 3) := dk_U2 a_Tx_product_19 (dko_180 _) rfl
theorem d_Tx_product_22 : decode b_Tx_product 22 = .ok (.bipush 47, 2) := dk_S1 a_Tx_product_22 (dko_16 _) (by decide +kernel)
theorem d_Tx_product_24 : decode b_Tx_product 24 = .ok (.if_icmp .ne 142, 3) := dk_S2 a_Tx_product_24 (dko_160 _) (by decide +kernel)
theorem d_Tx_product_27 : decode b_Tx_product 27 = .ok (.aload_n 0, 1) := dk_0 a_Tx_product_27 (dko_42 _)
theorem d_Tx_product_28 : decode b_Tx_product 28 = .ok (.getfield 146, 3) := dk_U2 a_Tx_product_28 (dko_180 _) rfl
theorem d_Tx_product_31 : decode b_Tx_product 31 = .ok (.bipush 42, 2) := dk_S1 a_Tx_product_31 (dko_16 _) (by decide +kernel)
theorem d_Tx_product_33 : decode b_Tx_product 33 = .ok (.if_icmp .ne 7, 3) := dk_S2 a_Tx_product_33 (dko_160 _) (by decide +kernel)
theorem d_Tx_product_36 : decode b_Tx_product 36 = .ok (.iconst 4, 1) := dk_0 a_Tx_product_36 (dko_7 _)
theorem d_Tx_product_37 : decode b_Tx_product 37 = .ok (.goto 4, 3) := dk_S2 a_Tx_product_37 (dko_167 _) (by decide +kernel)
theorem d_Tx_product_40 : decode b_Tx_product 40 = .ok (.iconst 5, 1) := dk_0 a_Tx_product_40 (dko_8 _)
theorem d_Tx_product_41 : decode b_Tx_product 41 = .ok (.istore_n 2, 1) := dk_0 a_Tx_product_41 (dko_61 _)
theorem d_Tx_product_42 : decode b_Tx_product 42 = .ok (.aload_n 0, 1) := dk_0 a_Tx_product_42 (dko_42 _)
theorem d_Tx_product_43 : decode b_Tx_product 43 = .ok (.getfield 69, 3) := dk_U2 a_Tx_product_43 (dko_180 _) rfl
theorem d_Tx_product_46 : decode b_Tx_product 46 = .ok (.istore_n 3, 1) := dk_0 a_Tx_product_46 (dko_62 _)
theorem d_Tx_product_47 : decode b_Tx_product 47 = .ok (.aload_n 0, 1) := dk_0 a_Tx_product_47 (dko_42 _)
theorem d_Tx_product_48 : decode b_Tx_product 48 = .ok (.invokevirtual 182, 3) := dk_U2 a_Tx_product_48 (dko_182 _) rfl
theorem d_Tx_product_51 : decode b_Tx_product 51 = .ok (.ifCond .eq 10, 3) := dk_S2 a_Tx_product_51 (dko_153 _) (by decide +kernel)
theorem d_Tx_product_54 : decode b_Tx_product 54 = .ok (.aload_n 0, 1) := dk_0 a_Tx_product_54 (dko_42 _)
theorem d_Tx_product_55 : decode b_Tx_product 55 = .ok (.invokevirtual 222, 3) := dk_U2 a_Tx_product_55 (dko_182 _) rfl
theorem d_Tx_product_58 : decode b_Tx_product 58 = .ok (.goto 4, 3) := dk_S2 a_Tx_product_58 (dko_167 _) (by decide +kernel)
theorem d_Tx_product_61 : decode b_Tx_product 61 = .ok (.iconst (-1), 1) := dk_0 a_Tx_product_61 (dko_2 _)
theorem d_Tx_product_62 : decode b_Tx_product 62 = .ok (.istore 4, 2) := dk_U1 a_Tx_product_62 (dko_54 _) rfl
theorem d_Tx_product_64 : decode b_Tx_product 64 = .ok (.iload 4, 2) := dk_U1 a_Tx_product_64 (dko_21 _) rfl
theorem d_Tx_product_66 : decode b_Tx_product 66 = .ok (.ifCond .ge 5, 3) := dk_S2 a_Tx_product_66 (dko_156 _) (by decide +kernel)
theorem d_Tx_product_69 : decode b_Tx_product 69 = .ok (.iconst (-1), 1) := dk_0 a_Tx_product_69 (dko_2 _)
theorem d_Tx_product_70 : decode b_Tx_product 70 = .ok (.ireturn, 1) := dk_0 a_Tx_product_70 (dko_172 _)
theorem d_Tx_product_71 : decode b_Tx_product 71 = .ok (.aload_n 0, 1) := dk_0 a_Tx_product_71 (dko_42 _)
theorem d_Tx_product_72 : decode b_Tx_product 72 = .ok (.iload_n 1, 1) := dk_0 a_Tx_product_72 (dko_27 _)
theorem d_Tx_product_73 : decode b_Tx_product 73 = .ok (.invokevirtual 215, 3) := dk_U2 a_Tx_product_73 (dko_182 _) rfl
theorem d_Tx_product_76 : decode b_Tx_product 76 = .ok (.istore 5, 2) := dk_U1 a_Tx_product_76 (dko_54 _) rfl
theorem d_Tx_product_78 : decode b_Tx_product 78 = .ok (.aload_n 0, 1) := dk_0 a_Tx_product_78 (dko_42 _)
theorem d_Tx_product_79 : decode b_Tx_product 79 = .ok (.iload 4, 2) := dk_U1 a_Tx_product_79 (dko_21 _) rfl
theorem d_Tx_product_81 : decode b_Tx_product 81 = .ok (.invokevirtual 215, 3) := dk_U2 a_Tx_product_81 (dko_182 _) rfl
theorem d_Tx_product_84 : decode b_Tx_product 84 = .ok (.istore 6, 2) := dk_U1 a_Tx_product_84 (dko_54 _) rfl
theorem d_Tx_product_86 : decode b_Tx_product 86 = .ok (.iload_n 2, 1) := dk_0 a_Tx_product_86 (dko_28 _)
theorem d_Tx_product_87 : decode b_Tx_product 87 = .ok (.iconst 4, 1) := dk_0 a_Tx_product_87 (dko_7 _)
theorem d_Tx_product_88 : decode b_Tx_product 88 = .ok (.if_icmp .ne 27, 3) := dk_S2 a_Tx_product_88 (dko_160 _) (by decide +kernel)
theorem d_Tx_product_91 : decode b_Tx_product 91 = .ok (.iload 5, 2) := dk_U1 a_Tx_product_91 (dko_21 _) rfl
theorem d_Tx_product_93 : decode b_Tx_product 93 = .ok (.ifCond .ne 8, 3) := dk_S2 a_Tx_product_93 (dko_154 _) (by decide +kernel)
theorem d_Tx_product_96 : decode b_Tx_product 96 = .ok (.iload 6, 2) := dk_U1 a_Tx_product_96 (dko_21 _) rfl
theorem d_Tx_product_98 : decode b_Tx_product 98 = .ok (.goto 39, 3) := dk_S2 a_Tx_product_98 (dko_167 _) (by decide +kernel)
theorem d_Tx_product_101 : decode b_Tx_product 101 = .ok (.iload 6, 2) := dk_U1 a_Tx_product_101 (dko_21 _) rfl
theorem d_Tx_product_103 : decode b_Tx_product 103 = .ok (.ifCond .ne 8, 3) := dk_S2 a_Tx_product_103 (dko_154 _) (by decide +kernel)
theorem d_Tx_product_106 : decode b_Tx_product 106 = .ok (.iload 5, 2) := dk_U1 a_Tx_product_106 (dko_21 _) rfl
theorem d_Tx_product_108 : decode b_Tx_product 108 = .ok (.goto 29, 3) := dk_S2 a_Tx_product_108 (dko_167 _) (by decide +kernel)
theorem d_Tx_product_111 : decode b_Tx_product 111 = .ok (.iconst (-1), 1) := dk_0 a_Tx_product_111 (dko_2 _)
theorem d_Tx_product_112 : decode b_Tx_product 112 = .ok (.goto 25, 3) := dk_S2 a_Tx_product_112 (dko_167 _) (by decide +kernel)
theorem d_Tx_product_115 : decode b_Tx_product 115 = .ok (.iload 6, 2) := dk_U1 a_Tx_product_115 (dko_21 _) rfl
theorem d_Tx_product_117 : decode b_Tx_product 117 = .ok (.ifCond .ne 8, 3) := dk_S2 a_Tx_product_117 (dko_154 _) (by decide +kernel)
theorem d_Tx_product_120 : decode b_Tx_product 120 = .ok (.iload 5, 2) := dk_U1 a_Tx_product_120 (dko_21 _) rfl
theorem d_Tx_product_122 : decode b_Tx_product 122 = .ok (.goto 15, 3) := dk_S2 a_Tx_product_122 (dko_167 _) (by decide +kernel)
theorem d_Tx_product_125 : decode b_Tx_product 125 = .ok (.iload 5, 2) := dk_U1 a_Tx_product_125 (dko_21 _) rfl
theorem d_Tx_product_127 : decode b_Tx_product 127 = .ok (.iload 6, 2) := dk_U1 a_Tx_product_127 (dko_21 _) rfl
theorem d_Tx_product_129 : decode b_Tx_product 129 = .ok (.if_icmp .ne 7, 3) := dk_S2 a_Tx_product_129 (dko_160 _) (by decide +kernel)
theorem d_Tx_product_132 : decode b_Tx_product 132 = .ok (.iconst 0, 1) := dk_0 a_Tx_product_132 (dko_3 _)
theorem d_Tx_product_133 : decode b_Tx_product 133 = .ok (.goto 4, 3) := dk_S2 a_Tx_product_133 (dko_167 _) (by decide +kernel)
theorem d_Tx_product_136 : decode b_Tx_product 136 = .ok (.iconst (-1), 1) := dk_0 a_Tx_product_136 (dko_2 _)
theorem d_Tx_product_137 : decode b_Tx_product 137 = .ok (.istore 7, 2) := dk_U1 a_Tx_product_137 (dko_54 _) rfl
theorem d_Tx_product_139 : decode b_Tx_product 139 = .ok (.iload 7, 2) := dk_U1 a_Tx_product_139 (dko_21 _) rfl
theorem d_Tx_product_141 : decode b_Tx_product 141 = .ok (.iconst (-1), 1) := dk_0 a_Tx_product_141 (dko_2 _)
theorem d_Tx_product_142 : decode b_Tx_product 142 = .ok (.if_icmp .ne 10, 3) := dk_S2 a_Tx_product_142 (dko_160 _) (by decide +kernel)
theorem d_Tx_product_145 : decode b_Tx_product 145 = .ok (.aload_n 0, 1) := dk_0 a_Tx_product_145 (dko_42 _)
theorem d_Tx_product_146 : decode b_Tx_product 146 = .ok (.iload_n 3, 1) := dk_0 a_Tx_product_146 (dko_29 _)
theorem d_Tx_product_147 : decode b_Tx_product 147 = .ok (.putfield 159, 3) := dk_U2 a_Tx_product_147 (dko_181 _) rfl
theorem d_Tx_product_150 : decode b_Tx_product 150 = .ok (.iconst (-1), 1) := dk_0 a_Tx_product_150 (dko_2 _)
theorem d_Tx_product_151 : decode b_Tx_product 151 = .ok (.ireturn, 1) := dk_0 a_Tx_product_151 (dko_172 _)
theorem d_Tx_product_152 : decode b_Tx_product 152 = .ok (.aload_n 0, 1) := dk_0 a_Tx_product_152 (dko_42 _)
theorem d_Tx_product_153 : decode b_Tx_product 153 = .ok (.iload_n 2, 1) := dk_0 a_Tx_product_153 (dko_28 _)
theorem d_Tx_product_154 : decode b_Tx_product 154 = .ok (.iload_n 1, 1) := dk_0 a_Tx_product_154 (dko_27 _)
theorem d_Tx_product_155 : decode b_Tx_product 155 = .ok (.iload 4, 2) := dk_U1 a_Tx_product_155 (dko_21 _) rfl
theorem d_Tx_product_157 : decode b_Tx_product 157 = .ok (.iload 7, 2) := dk_U1 a_Tx_product_157 (dko_21 _) rfl
theorem d_Tx_product_159 : decode b_Tx_product 159 = .ok (.invokevirtual 218, 3) := dk_U2 a_Tx_product_159 (dko_182 _) rfl
theorem d_Tx_product_162 : decode b_Tx_product 162 = .ok (.istore_n 1, 1) := dk_0 a_Tx_product_162 (dko_60 _)
theorem d_Tx_product_163 : decode b_Tx_product 163 = .ok (.goto (-158), 3) := dk_S2 a_Tx_product_163 (dko_167 _) (by decide +kernel)
theorem d_Tx_product_166 : decode b_Tx_product 166 = .ok (.iload_n 1, 1) := dk_0 a_Tx_product_166 (dko_27 _)
theorem d_Tx_product_167 : decode b_Tx_product 167 = .ok (.ireturn, 1) := dk_0 a_Tx_product_167 (dko_172 _)
set_option maxHeartbeats 4000000 in
set_option maxRecDepth 100000 in
theorem ok_Tx_product (pc : Nat) : OpS mt mi_Tx_product pc (cs_Tx_product pc) := (os_n (os_n (os_n (os_n (os_n (os_n (os_l (so_aload_n d_Tx_product_0 rfl)) (os_l (so_callV (iv := mi_Tx_factor) rfl rfl rfl mw_2291 mw_2293 sl_129 mw_19 mw_2294 ⟨by decide +kernel, by decide +kernel, by decide +kernel⟩ (by decide) d_Tx_product_1))) (os_n (os_l (so_istore_n d_Tx_product_4 rfl (by decide))) (os_n (os_l (so_iload_n d_Tx_product_5 rfl)) (os_l (so_iflt d_Tx_product_6 (by decide)))))) (os_n (os_n (os_l (so_aload_n d_Tx_product_9 rfl)) (os_l (so_get (C := R_Tx) (T := F_Tx) (N := 39) (j := 4) in_Tx rfl (by decide) mw_1583 d_Tx_product_10))) (os_n (os_l (so_bipush d_Tx_product_13 (by decide))) (os_n (os_l (so_iceq d_Tx_product_15 (by decide))) (os_l (so_aload_n d_Tx_product_18 rfl)))))) (os_n (os_n (os_n (os_l (so_get (C := R_Tx) (T := F_Tx) (N := 39) (j := 4) in_Tx rfl (by decide) mw_1583 d_Tx_product_19)) (os_l (so_bipush d_Tx_product_22 (by decide)))) (os_n (os_l (so_icne d_Tx_product_24 (by decide))) (os_n (os_l (so_aload_n d_Tx_product_27 rfl)) (os_l (so_get (C := R_Tx) (T := F_Tx) (N := 39) (j := 4) in_Tx rfl (by decide) mw_1583 d_Tx_product_28))))) (os_n (os_n (os_l (so_bipush d_Tx_product_31 (by decide))) (os_n (os_l (so_icne d_Tx_product_33 (by decide))) (os_l (so_iconst d_Tx_product_36 (by decide))))) (os_n (os_l (so_goto d_Tx_product_37 (by decide))) (os_n (os_l (so_iconst d_Tx_product_40 (by decide))) (os_l (so_istore_n d_Tx_product_41 rfl (by decide)))))))) (os_n (os_n (os_n (os_n (os_l (so_aload_n d_Tx_product_42 rfl)) (os_l (so_get (C := R_Tx) (T := F_Tx) (N := 39) (j := 5) in_Tx rfl (by decide) mw_1584 d_Tx_product_43))) (os_n (os_l (so_istore_n d_Tx_product_46 rfl (by decide))) (os_n (os_l (so_aload_n d_Tx_product_47 rfl)) (os_l (so_callV (iv := mi_Tx_go) rfl rfl rfl mw_2182 mw_2184 sl_111 mw_19 mw_2185 ⟨by decide +kernel, by decide +kernel, by decide +kernel⟩ (by decide) d_Tx_product_48))))) (os_n (os_n (os_l (so_ifeq d_Tx_product_51 (by decide))) (os_n (os_l (so_aload_n d_Tx_product_54 rfl)) (os_l (so_callV (iv := mi_Tx_factor) rfl rfl rfl mw_2291 mw_2293 sl_129 mw_19 mw_2294 ⟨by decide +kernel, by decide +kernel, by decide +kernel⟩ (by decide) d_Tx_product_55)))) (os_n (os_l (so_goto d_Tx_product_58 (by decide))) (os_n (os_l (so_iconst d_Tx_product_61 (by decide))) (os_l (so_istore d_Tx_product_62 (by decide))))))) (os_n (os_n (os_n (os_l (so_iload d_Tx_product_64)) (os_l (so_ifge d_Tx_product_66 (by decide)))) (os_n (os_l (so_iconst d_Tx_product_69 (by decide))) (os_n (os_l (so_ireturn rfl d_Tx_product_70)) (os_l (so_aload_n d_Tx_product_71 rfl))))) (os_n (os_n (os_l (so_iload_n d_Tx_product_72 rfl)) (os_n (os_l (so_callV (iv := mi_Tx_unitIn) rfl rfl rfl mw_2314 mw_2316 sl_134 mw_19 mw_2317 ⟨by decide +kernel, by decide +kernel, by decide +kernel⟩ (by decide) d_Tx_product_73)) (os_l (so_istore d_Tx_product_76 (by decide))))) (os_n (os_l (so_aload_n d_Tx_product_78 rfl)) (os_n (os_l (so_iload d_Tx_product_79)) (os_l (so_callV (iv := mi_Tx_unitIn) rfl rfl rfl mw_2314 mw_2316 sl_134 mw_19 mw_2317 ⟨by decide +kernel, by decide +kernel, by decide +kernel⟩ (by decide) d_Tx_product_81)))))))) (os_n (os_n (os_n (os_n (os_n (os_l (so_istore d_Tx_product_84 (by decide))) (os_l (so_iload_n d_Tx_product_86 rfl))) (os_n (os_l (so_iconst d_Tx_product_87 (by decide))) (os_n (os_l (so_icne d_Tx_product_88 (by decide))) (os_l (so_iload d_Tx_product_91))))) (os_n (os_n (os_l (so_ifne d_Tx_product_93 (by decide))) (os_l (so_iload d_Tx_product_96))) (os_n (os_l (so_goto d_Tx_product_98 (by decide))) (os_n (os_l (so_iload d_Tx_product_101)) (os_l (so_ifne d_Tx_product_103 (by decide))))))) (os_n (os_n (os_n (os_l (so_iload d_Tx_product_106)) (os_l (so_goto d_Tx_product_108 (by decide)))) (os_n (os_l (so_iconst d_Tx_product_111 (by decide))) (os_n (os_l (so_goto d_Tx_product_112 (by decide))) (os_l (so_iload d_Tx_product_115))))) (os_n (os_n (os_l (so_ifne d_Tx_product_117 (by decide))) (os_n (os_l (so_iload d_Tx_product_120)) (os_l (so_goto d_Tx_product_122 (by decide))))) (os_n (os_l (so_iload d_Tx_product_125)) (os_n (os_l (so_iload d_Tx_product_127)) (os_l (so_icne d_Tx_product_129 (by decide)))))))) (os_n (os_n (os_n (os_n (os_l (so_iconst d_Tx_product_132 (by decide))) (os_l (so_goto d_Tx_product_133 (by decide)))) (os_n (os_l (so_iconst d_Tx_product_136 (by decide))) (os_n (os_l (so_istore d_Tx_product_137 (by decide))) (os_l (so_iload d_Tx_product_139))))) (os_n (os_n (os_l (so_iconst d_Tx_product_141 (by decide))) (os_n (os_l (so_icne d_Tx_product_142 (by decide))) (os_l (so_aload_n d_Tx_product_145 rfl)))) (os_n (os_l (so_iload_n d_Tx_product_146 rfl)) (os_n (os_l (so_putI (C := R_Tx) (T := F_Tx) (N := 39) (j := 10) in_Tx t_Tx_ok n_Tx rfl (by decide) mw_1589 rfl (by decide +kernel) d_Tx_product_147)) (os_l (so_iconst d_Tx_product_150 (by decide))))))) (os_n (os_n (os_n (os_l (so_ireturn rfl d_Tx_product_151)) (os_l (so_aload_n d_Tx_product_152 rfl))) (os_n (os_l (so_iload_n d_Tx_product_153 rfl)) (os_n (os_l (so_iload_n d_Tx_product_154 rfl)) (os_l (so_iload d_Tx_product_155))))) (os_n (os_n (os_l (so_iload d_Tx_product_157)) (os_n (os_l (so_callV (iv := mi_Tx_two) rfl rfl rfl mw_2318 mw_2320 sl_135 mw_19 mw_2321 ⟨by decide +kernel, by decide +kernel, by decide +kernel⟩ (by decide) d_Tx_product_159)) (os_l (so_istore_n d_Tx_product_162 rfl (by decide))))) (os_n (os_l (so_goto d_Tx_product_163 (by decide))) (os_n (os_l (so_iload_n d_Tx_product_166 rfl)) (os_l (so_ireturn rfl d_Tx_product_167)))))))))
abbrev t_Tx_factor_253 : List UInt8 := 172 :: []
abbrev t_Tx_factor_252 : List UInt8 := 2 :: t_Tx_factor_253
abbrev t_Tx_factor_249 : List UInt8 := 167 :: 0 :: 4 :: t_Tx_factor_252
abbrev t_Tx_factor_246 : List UInt8 := 182 :: 0 :: 208 :: t_Tx_factor_249
abbrev t_Tx_factor_243 : List UInt8 := 180 :: 0 :: 201 :: t_Tx_factor_246
abbrev t_Tx_factor_242 : List UInt8 := 42 :: t_Tx_factor_243
abbrev t_Tx_factor_241 : List UInt8 := 29 :: t_Tx_factor_242
abbrev t_Tx_factor_240 : List UInt8 := 27 :: t_Tx_factor_241
abbrev t_Tx_factor_239 : List UInt8 := 133 :: t_Tx_factor_240
abbrev t_Tx_factor_238 : List UInt8 := 28 :: t_Tx_factor_239
abbrev t_Tx_factor_237 : List UInt8 := 4 :: t_Tx_factor_238
abbrev t_Tx_factor_236 : List UInt8 := 42 :: t_Tx_factor_237
abbrev t_Tx_factor_233 : List UInt8 := 153 :: 0 :: 19 :: t_Tx_factor_236
abbrev t_Tx_factor_230 : List UInt8 := 182 :: 0 :: 182 :: t_Tx_factor_233
abbrev t_Tx_factor_229 : List UInt8 := 42 :: t_Tx_factor_230
abbrev t_Tx_factor_228 : List UInt8 := 62 :: t_Tx_factor_229
abbrev t_Tx_factor_227 : List UInt8 := 46 :: t_Tx_factor_228
abbrev t_Tx_factor_226 : List UInt8 := 96 :: t_Tx_factor_227
abbrev t_Tx_factor_225 : List UInt8 := 28 :: t_Tx_factor_226
abbrev t_Tx_factor_224 : List UInt8 := 104 :: t_Tx_factor_225
abbrev t_Tx_factor_223 : List UInt8 := 100 :: t_Tx_factor_224
abbrev t_Tx_factor_220 : List UInt8 := 180 :: 0 :: 186 :: t_Tx_factor_223
abbrev t_Tx_factor_219 : List UInt8 := 42 :: t_Tx_factor_220
abbrev t_Tx_factor_218 : List UInt8 := 4 :: t_Tx_factor_219
abbrev t_Tx_factor_216 : List UInt8 := 16 :: 40 :: t_Tx_factor_218
abbrev t_Tx_factor_213 : List UInt8 := 180 :: 0 :: 50 :: t_Tx_factor_216
abbrev t_Tx_factor_212 : List UInt8 := 42 :: t_Tx_factor_213
abbrev t_Tx_factor_211 : List UInt8 := 172 :: t_Tx_factor_212
abbrev t_Tx_factor_208 : List UInt8 := 182 :: 0 :: 192 :: t_Tx_factor_211
abbrev t_Tx_factor_207 : List UInt8 := 42 :: t_Tx_factor_208
abbrev t_Tx_factor_204 : List UInt8 := 160 :: 0 :: 8 :: t_Tx_factor_207
abbrev t_Tx_factor_202 : List UInt8 := 16 :: 24 :: t_Tx_factor_204
abbrev t_Tx_factor_201 : List UInt8 := 46 :: t_Tx_factor_202
abbrev t_Tx_factor_200 : List UInt8 := 96 :: t_Tx_factor_201
abbrev t_Tx_factor_199 : List UInt8 := 28 :: t_Tx_factor_200
abbrev t_Tx_factor_198 : List UInt8 := 104 :: t_Tx_factor_199
abbrev t_Tx_factor_197 : List UInt8 := 100 :: t_Tx_factor_198
abbrev t_Tx_factor_194 : List UInt8 := 180 :: 0 :: 186 :: t_Tx_factor_197
abbrev t_Tx_factor_193 : List UInt8 := 42 :: t_Tx_factor_194
abbrev t_Tx_factor_192 : List UInt8 := 4 :: t_Tx_factor_193
abbrev t_Tx_factor_190 : List UInt8 := 16 :: 40 :: t_Tx_factor_192
abbrev t_Tx_factor_187 : List UInt8 := 180 :: 0 :: 47 :: t_Tx_factor_190
abbrev t_Tx_factor_186 : List UInt8 := 42 :: t_Tx_factor_187
abbrev t_Tx_factor_183 : List UInt8 := 155 :: 0 :: 24 :: t_Tx_factor_186
abbrev t_Tx_factor_182 : List UInt8 := 28 :: t_Tx_factor_183
abbrev t_Tx_factor_181 : List UInt8 := 61 :: t_Tx_factor_182
abbrev t_Tx_factor_180 : List UInt8 := 2 :: t_Tx_factor_181
abbrev t_Tx_factor_177 : List UInt8 := 167 :: 0 :: 4 :: t_Tx_factor_180
abbrev t_Tx_factor_174 : List UInt8 := 182 :: 0 :: 240 :: t_Tx_factor_177
abbrev t_Tx_factor_173 : List UInt8 := 42 :: t_Tx_factor_174
abbrev t_Tx_factor_170 : List UInt8 := 153 :: 0 :: 10 :: t_Tx_factor_173
abbrev t_Tx_factor_167 : List UInt8 := 182 :: 0 :: 237 :: t_Tx_factor_170
abbrev t_Tx_factor_166 : List UInt8 := 2 :: t_Tx_factor_167
abbrev t_Tx_factor_165 : List UInt8 := 42 :: t_Tx_factor_166
abbrev t_Tx_factor_164 : List UInt8 := 172 :: t_Tx_factor_165
abbrev t_Tx_factor_161 : List UInt8 := 182 :: 0 :: 208 :: t_Tx_factor_164
abbrev t_Tx_factor_159 : List UInt8 := 21 :: 4 :: t_Tx_factor_161
abbrev t_Tx_factor_156 : List UInt8 := 182 :: 0 :: 215 :: t_Tx_factor_159
abbrev t_Tx_factor_155 : List UInt8 := 29 :: t_Tx_factor_156
abbrev t_Tx_factor_154 : List UInt8 := 42 :: t_Tx_factor_155
abbrev t_Tx_factor_153 : List UInt8 := 27 :: t_Tx_factor_154
abbrev t_Tx_factor_152 : List UInt8 := 9 :: t_Tx_factor_153
abbrev t_Tx_factor_150 : List UInt8 := 16 :: 6 :: t_Tx_factor_152
abbrev t_Tx_factor_149 : List UInt8 := 42 :: t_Tx_factor_150
abbrev t_Tx_factor_146 : List UInt8 := 182 :: 0 :: 204 :: t_Tx_factor_149
abbrev t_Tx_factor_145 : List UInt8 := 29 :: t_Tx_factor_146
abbrev t_Tx_factor_144 : List UInt8 := 42 :: t_Tx_factor_145
abbrev t_Tx_factor_142 : List UInt8 := 54 :: 4 :: t_Tx_factor_144
abbrev t_Tx_factor_139 : List UInt8 := 180 :: 0 :: 201 :: t_Tx_factor_142
abbrev t_Tx_factor_138 : List UInt8 := 42 :: t_Tx_factor_139
abbrev t_Tx_factor_137 : List UInt8 := 172 :: t_Tx_factor_138
abbrev t_Tx_factor_136 : List UInt8 := 29 :: t_Tx_factor_137
abbrev t_Tx_factor_133 : List UInt8 := 154 :: 0 :: 5 :: t_Tx_factor_136
abbrev t_Tx_factor_132 : List UInt8 := 28 :: t_Tx_factor_133
abbrev t_Tx_factor_129 : List UInt8 := 181 :: 0 :: 228 :: t_Tx_factor_132
abbrev t_Tx_factor_128 : List UInt8 := 100 :: t_Tx_factor_129
abbrev t_Tx_factor_127 : List UInt8 := 4 :: t_Tx_factor_128
abbrev t_Tx_factor_124 : List UInt8 := 180 :: 0 :: 228 :: t_Tx_factor_127
abbrev t_Tx_factor_123 : List UInt8 := 89 :: t_Tx_factor_124
abbrev t_Tx_factor_122 : List UInt8 := 42 :: t_Tx_factor_123
abbrev t_Tx_factor_121 : List UInt8 := 172 :: t_Tx_factor_122
abbrev t_Tx_factor_120 : List UInt8 := 2 :: t_Tx_factor_121
abbrev t_Tx_factor_117 : List UInt8 := 154 :: 0 :: 5 :: t_Tx_factor_120
abbrev t_Tx_factor_114 : List UInt8 := 182 :: 0 :: 234 :: t_Tx_factor_117
abbrev t_Tx_factor_112 : List UInt8 := 16 :: 41 :: t_Tx_factor_114
abbrev t_Tx_factor_111 : List UInt8 := 42 :: t_Tx_factor_112
abbrev t_Tx_factor_108 : List UInt8 := 154 :: 0 :: 14 :: t_Tx_factor_111
abbrev t_Tx_factor_107 : List UInt8 := 28 :: t_Tx_factor_108
abbrev t_Tx_factor_104 : List UInt8 := 155 :: 0 :: 16 :: t_Tx_factor_107
abbrev t_Tx_factor_103 : List UInt8 := 29 :: t_Tx_factor_104
abbrev t_Tx_factor_102 : List UInt8 := 62 :: t_Tx_factor_103
abbrev t_Tx_factor_99 : List UInt8 := 182 :: 0 :: 231 :: t_Tx_factor_102
abbrev t_Tx_factor_98 : List UInt8 := 42 :: t_Tx_factor_99
abbrev t_Tx_factor_95 : List UInt8 := 167 :: 0 :: 7 :: t_Tx_factor_98
abbrev t_Tx_factor_92 : List UInt8 := 182 :: 0 :: 222 :: t_Tx_factor_95
abbrev t_Tx_factor_91 : List UInt8 := 42 :: t_Tx_factor_92
abbrev t_Tx_factor_88 : List UInt8 := 153 :: 0 :: 10 :: t_Tx_factor_91
abbrev t_Tx_factor_87 : List UInt8 := 28 :: t_Tx_factor_88
abbrev t_Tx_factor_86 : List UInt8 := 172 :: t_Tx_factor_87
abbrev t_Tx_factor_85 : List UInt8 := 2 :: t_Tx_factor_86
abbrev t_Tx_factor_82 : List UInt8 := 154 :: 0 :: 5 :: t_Tx_factor_85
abbrev t_Tx_factor_79 : List UInt8 := 182 :: 0 :: 182 :: t_Tx_factor_82
abbrev t_Tx_factor_78 : List UInt8 := 42 :: t_Tx_factor_79
abbrev t_Tx_factor_75 : List UInt8 := 181 :: 0 :: 228 :: t_Tx_factor_78
abbrev t_Tx_factor_74 : List UInt8 := 96 :: t_Tx_factor_75
abbrev t_Tx_factor_73 : List UInt8 := 4 :: t_Tx_factor_74
abbrev t_Tx_factor_70 : List UInt8 := 180 :: 0 :: 228 :: t_Tx_factor_73
abbrev t_Tx_factor_69 : List UInt8 := 89 :: t_Tx_factor_70
abbrev t_Tx_factor_68 : List UInt8 := 42 :: t_Tx_factor_69
abbrev t_Tx_factor_67 : List UInt8 := 172 :: t_Tx_factor_68
abbrev t_Tx_factor_64 : List UInt8 := 182 :: 0 :: 192 :: t_Tx_factor_67
abbrev t_Tx_factor_63 : List UInt8 := 42 :: t_Tx_factor_64
abbrev t_Tx_factor_60 : List UInt8 := 160 :: 0 :: 8 :: t_Tx_factor_63
abbrev t_Tx_factor_58 : List UInt8 := 16 :: 20 :: t_Tx_factor_60
abbrev t_Tx_factor_55 : List UInt8 := 180 :: 0 :: 228 :: t_Tx_factor_58
abbrev t_Tx_factor_54 : List UInt8 := 42 :: t_Tx_factor_55
abbrev t_Tx_factor_53 : List UInt8 := 61 :: t_Tx_factor_54
abbrev t_Tx_factor_52 : List UInt8 := 3 :: t_Tx_factor_53
abbrev t_Tx_factor_49 : List UInt8 := 167 :: 0 :: 4 :: t_Tx_factor_52
abbrev t_Tx_factor_48 : List UInt8 := 4 :: t_Tx_factor_49
abbrev t_Tx_factor_45 : List UInt8 := 160 :: 0 :: 7 :: t_Tx_factor_48
abbrev t_Tx_factor_43 : List UInt8 := 16 :: 45 :: t_Tx_factor_45
abbrev t_Tx_factor_40 : List UInt8 := 180 :: 0 :: 146 :: t_Tx_factor_43
abbrev t_Tx_factor_39 : List UInt8 := 42 :: t_Tx_factor_40
abbrev t_Tx_factor_36 : List UInt8 := 160 :: 0 :: 129 :: t_Tx_factor_39
abbrev t_Tx_factor_34 : List UInt8 := 16 :: 45 :: t_Tx_factor_36
abbrev t_Tx_factor_31 : List UInt8 := 180 :: 0 :: 146 :: t_Tx_factor_34
abbrev t_Tx_factor_30 : List UInt8 := 42 :: t_Tx_factor_31
abbrev t_Tx_factor_27 : List UInt8 := 159 :: 0 :: 12 :: t_Tx_factor_30
abbrev t_Tx_factor_25 : List UInt8 := 16 :: 40 :: t_Tx_factor_27
abbrev t_Tx_factor_22 : List UInt8 := 180 :: 0 :: 146 :: t_Tx_factor_25
abbrev t_Tx_factor_21 : List UInt8 := 42 :: t_Tx_factor_22
abbrev t_Tx_factor_20 : List UInt8 := 172 :: t_Tx_factor_21
abbrev t_Tx_factor_17 : List UInt8 := 182 :: 0 :: 225 :: t_Tx_factor_20
abbrev t_Tx_factor_16 : List UInt8 := 27 :: t_Tx_factor_17
abbrev t_Tx_factor_15 : List UInt8 := 42 :: t_Tx_factor_16
abbrev t_Tx_factor_12 : List UInt8 := 160 :: 0 :: 9 :: t_Tx_factor_15
abbrev t_Tx_factor_9 : List UInt8 := 17 :: 7 :: 208 :: t_Tx_factor_12
abbrev t_Tx_factor_6 : List UInt8 := 180 :: 0 :: 146 :: t_Tx_factor_9
abbrev t_Tx_factor_5 : List UInt8 := 42 :: t_Tx_factor_6
abbrev t_Tx_factor_4 : List UInt8 := 60 :: t_Tx_factor_5
abbrev t_Tx_factor_1 : List UInt8 := 180 :: 0 :: 143 :: t_Tx_factor_4
abbrev t_Tx_factor_0 : List UInt8 := 42 :: t_Tx_factor_1
theorem a_Tx_factor_0 : dk_at b_Tx_factor 0 t_Tx_factor_0 := dk_start (by decide +kernel)
theorem a_Tx_factor_1 : dk_at b_Tx_factor 1 t_Tx_factor_1 := dk_go 1 a_Tx_factor_0 rfl
theorem a_Tx_factor_4 : dk_at b_Tx_factor 4 t_Tx_factor_4 := dk_go 3 a_Tx_factor_1 rfl
theorem a_Tx_factor_5 : dk_at b_Tx_factor 5 t_Tx_factor_5 := dk_go 1 a_Tx_factor_4 rfl
theorem a_Tx_factor_6 : dk_at b_Tx_factor 6 t_Tx_factor_6 := dk_go 1 a_Tx_factor_5 rfl
theorem a_Tx_factor_9 : dk_at b_Tx_factor 9 t_Tx_factor_9 := dk_go 3 a_Tx_factor_6 rfl
theorem a_Tx_factor_12 : dk_at b_Tx_factor 12 t_Tx_factor_12 := dk_go 3 a_Tx_factor_9 rfl
theorem a_Tx_factor_15 : dk_at b_Tx_factor 15 t_Tx_factor_15 := dk_go 3 a_Tx_factor_12 rfl
theorem a_Tx_factor_16 : dk_at b_Tx_factor 16 t_Tx_factor_16 := dk_go 1 a_Tx_factor_15 rfl
theorem a_Tx_factor_17 : dk_at b_Tx_factor 17 t_Tx_factor_17 := dk_go 1 a_Tx_factor_16 rfl
theorem a_Tx_factor_20 : dk_at b_Tx_factor 20 t_Tx_factor_20 := dk_go 3 a_Tx_factor_17 rfl
theorem a_Tx_factor_21 : dk_at b_Tx_factor 21 t_Tx_factor_21 := dk_go 1 a_Tx_factor_20 rfl
theorem a_Tx_factor_22 : dk_at b_Tx_factor 22 t_Tx_factor_22 := dk_go 1 a_Tx_factor_21 rfl
theorem a_Tx_factor_25 : dk_at b_Tx_factor 25 t_Tx_factor_25 := dk_go 3 a_Tx_factor_22 rfl
theorem a_Tx_factor_27 : dk_at b_Tx_factor 27 t_Tx_factor_27 := dk_go 2 a_Tx_factor_25 rfl
theorem a_Tx_factor_30 : dk_at b_Tx_factor 30 t_Tx_factor_30 := dk_go 3 a_Tx_factor_27 rfl
theorem a_Tx_factor_31 : dk_at b_Tx_factor 31 t_Tx_factor_31 := dk_go 1 a_Tx_factor_30 rfl
theorem a_Tx_factor_34 : dk_at b_Tx_factor 34 t_Tx_factor_34 := dk_go 3 a_Tx_factor_31 rfl
theorem a_Tx_factor_36 : dk_at b_Tx_factor 36 t_Tx_factor_36 := dk_go 2 a_Tx_factor_34 rfl
theorem a_Tx_factor_39 : dk_at b_Tx_factor 39 t_Tx_factor_39 := dk_go 3 a_Tx_factor_36 rfl
theorem a_Tx_factor_40 : dk_at b_Tx_factor 40 t_Tx_factor_40 := dk_go 1 a_Tx_factor_39 rfl
theorem a_Tx_factor_43 : dk_at b_Tx_factor 43 t_Tx_factor_43 := dk_go 3 a_Tx_factor_40 rfl
theorem a_Tx_factor_45 : dk_at b_Tx_factor 45 t_Tx_factor_45 := dk_go 2 a_Tx_factor_43 rfl
theorem a_Tx_factor_48 : dk_at b_Tx_factor 48 t_Tx_factor_48 := dk_go 3 a_Tx_factor_45 rfl
theorem a_Tx_factor_49 : dk_at b_Tx_factor 49 t_Tx_factor_49 := dk_go 1 a_Tx_factor_48 rfl
theorem a_Tx_factor_52 : dk_at b_Tx_factor 52 t_Tx_factor_52 := dk_go 3 a_Tx_factor_49 rfl
theorem a_Tx_factor_53 : dk_at b_Tx_factor 53 t_Tx_factor_53 := dk_go 1 a_Tx_factor_52 rfl
theorem a_Tx_factor_54 : dk_at b_Tx_factor 54 t_Tx_factor_54 := dk_go 1 a_Tx_factor_53 rfl
theorem a_Tx_factor_55 : dk_at b_Tx_factor 55 t_Tx_factor_55 := dk_go 1 a_Tx_factor_54 rfl
theorem a_Tx_factor_58 : dk_at b_Tx_factor 58 t_Tx_factor_58 := dk_go 3 a_Tx_factor_55 rfl
theorem a_Tx_factor_60 : dk_at b_Tx_factor 60 t_Tx_factor_60 := dk_go 2 a_Tx_factor_58 rfl
theorem a_Tx_factor_63 : dk_at b_Tx_factor 63 t_Tx_factor_63 := dk_go 3 a_Tx_factor_60 rfl
theorem a_Tx_factor_64 : dk_at b_Tx_factor 64 t_Tx_factor_64 := dk_go 1 a_Tx_factor_63 rfl
theorem a_Tx_factor_67 : dk_at b_Tx_factor 67 t_Tx_factor_67 := dk_go 3 a_Tx_factor_64 rfl
theorem a_Tx_factor_68 : dk_at b_Tx_factor 68 t_Tx_factor_68 := dk_go 1 a_Tx_factor_67 rfl
theorem a_Tx_factor_69 : dk_at b_Tx_factor 69 t_Tx_factor_69 := dk_go 1 a_Tx_factor_68 rfl
theorem a_Tx_factor_70 : dk_at b_Tx_factor 70 t_Tx_factor_70 := dk_go 1 a_Tx_factor_69 rfl
theorem a_Tx_factor_73 : dk_at b_Tx_factor 73 t_Tx_factor_73 := dk_go 3 a_Tx_factor_70 rfl
theorem a_Tx_factor_74 : dk_at b_Tx_factor 74 t_Tx_factor_74 := dk_go 1 a_Tx_factor_73 rfl
theorem a_Tx_factor_75 : dk_at b_Tx_factor 75 t_Tx_factor_75 := dk_go 1 a_Tx_factor_74 rfl
theorem a_Tx_factor_78 : dk_at b_Tx_factor 78 t_Tx_factor_78 := dk_go 3 a_Tx_factor_75 rfl
theorem a_Tx_factor_79 : dk_at b_Tx_factor 79 t_Tx_factor_79 := dk_go 1 a_Tx_factor_78 rfl
theorem a_Tx_factor_82 : dk_at b_Tx_factor 82 t_Tx_factor_82 := dk_go 3 a_Tx_factor_79 rfl
theorem a_Tx_factor_85 : dk_at b_Tx_factor 85 t_Tx_factor_85 := dk_go 3 a_Tx_factor_82 rfl
theorem a_Tx_factor_86 : dk_at b_Tx_factor 86 t_Tx_factor_86 := dk_go 1 a_Tx_factor_85 rfl
theorem a_Tx_factor_87 : dk_at b_Tx_factor 87 t_Tx_factor_87 := dk_go 1 a_Tx_factor_86 rfl
theorem a_Tx_factor_88 : dk_at b_Tx_factor 88 t_Tx_factor_88 := dk_go 1 a_Tx_factor_87 rfl
theorem a_Tx_factor_91 : dk_at b_Tx_factor 91 t_Tx_factor_91 := dk_go 3 a_Tx_factor_88 rfl
theorem a_Tx_factor_92 : dk_at b_Tx_factor 92 t_Tx_factor_92 := dk_go 1 a_Tx_factor_91 rfl
theorem a_Tx_factor_95 : dk_at b_Tx_factor 95 t_Tx_factor_95 := dk_go 3 a_Tx_factor_92 rfl
theorem a_Tx_factor_98 : dk_at b_Tx_factor 98 t_Tx_factor_98 := dk_go 3 a_Tx_factor_95 rfl
theorem a_Tx_factor_99 : dk_at b_Tx_factor 99 t_Tx_factor_99 := dk_go 1 a_Tx_factor_98 rfl
theorem a_Tx_factor_102 : dk_at b_Tx_factor 102 t_Tx_factor_102 := dk_go 3 a_Tx_factor_99 rfl
theorem a_Tx_factor_103 : dk_at b_Tx_factor 103 t_Tx_factor_103 := dk_go 1 a_Tx_factor_102 rfl
theorem a_Tx_factor_104 : dk_at b_Tx_factor 104 t_Tx_factor_104 := dk_go 1 a_Tx_factor_103 rfl
theorem a_Tx_factor_107 : dk_at b_Tx_factor 107 t_Tx_factor_107 := dk_go 3 a_Tx_factor_104 rfl
theorem a_Tx_factor_108 : dk_at b_Tx_factor 108 t_Tx_factor_108 := dk_go 1 a_Tx_factor_107 rfl
theorem a_Tx_factor_111 : dk_at b_Tx_factor 111 t_Tx_factor_111 := dk_go 3 a_Tx_factor_108 rfl
theorem a_Tx_factor_112 : dk_at b_Tx_factor 112 t_Tx_factor_112 := dk_go 1 a_Tx_factor_111 rfl
theorem a_Tx_factor_114 : dk_at b_Tx_factor 114 t_Tx_factor_114 := dk_go 2 a_Tx_factor_112 rfl
theorem a_Tx_factor_117 : dk_at b_Tx_factor 117 t_Tx_factor_117 := dk_go 3 a_Tx_factor_114 rfl
theorem a_Tx_factor_120 : dk_at b_Tx_factor 120 t_Tx_factor_120 := dk_go 3 a_Tx_factor_117 rfl
theorem a_Tx_factor_121 : dk_at b_Tx_factor 121 t_Tx_factor_121 := dk_go 1 a_Tx_factor_120 rfl
theorem a_Tx_factor_122 : dk_at b_Tx_factor 122 t_Tx_factor_122 := dk_go 1 a_Tx_factor_121 rfl
theorem a_Tx_factor_123 : dk_at b_Tx_factor 123 t_Tx_factor_123 := dk_go 1 a_Tx_factor_122 rfl
theorem a_Tx_factor_124 : dk_at b_Tx_factor 124 t_Tx_factor_124 := dk_go 1 a_Tx_factor_123 rfl
theorem a_Tx_factor_127 : dk_at b_Tx_factor 127 t_Tx_factor_127 := dk_go 3 a_Tx_factor_124 rfl
theorem a_Tx_factor_128 : dk_at b_Tx_factor 128 t_Tx_factor_128 := dk_go 1 a_Tx_factor_127 rfl
theorem a_Tx_factor_129 : dk_at b_Tx_factor 129 t_Tx_factor_129 := dk_go 1 a_Tx_factor_128 rfl
theorem a_Tx_factor_132 : dk_at b_Tx_factor 132 t_Tx_factor_132 := dk_go 3 a_Tx_factor_129 rfl
theorem a_Tx_factor_133 : dk_at b_Tx_factor 133 t_Tx_factor_133 := dk_go 1 a_Tx_factor_132 rfl
theorem a_Tx_factor_136 : dk_at b_Tx_factor 136 t_Tx_factor_136 := dk_go 3 a_Tx_factor_133 rfl
theorem a_Tx_factor_137 : dk_at b_Tx_factor 137 t_Tx_factor_137 := dk_go 1 a_Tx_factor_136 rfl
theorem a_Tx_factor_138 : dk_at b_Tx_factor 138 t_Tx_factor_138 := dk_go 1 a_Tx_factor_137 rfl
theorem a_Tx_factor_139 : dk_at b_Tx_factor 139 t_Tx_factor_139 := dk_go 1 a_Tx_factor_138 rfl
theorem a_Tx_factor_142 : dk_at b_Tx_factor 142 t_Tx_factor_142 := dk_go 3 a_Tx_factor_139 rfl
theorem a_Tx_factor_144 : dk_at b_Tx_factor 144 t_Tx_factor_144 := dk_go 2 a_Tx_factor_142 rfl
theorem a_Tx_factor_145 : dk_at b_Tx_factor 145 t_Tx_factor_145 := dk_go 1 a_Tx_factor_144 rfl
theorem a_Tx_factor_146 : dk_at b_Tx_factor 146 t_Tx_factor_146 := dk_go 1 a_Tx_factor_145 rfl
theorem a_Tx_factor_149 : dk_at b_Tx_factor 149 t_Tx_factor_149 := dk_go 3 a_Tx_factor_146 rfl
theorem a_Tx_factor_150 : dk_at b_Tx_factor 150 t_Tx_factor_150 := dk_go 1 a_Tx_factor_149 rfl
theorem a_Tx_factor_152 : dk_at b_Tx_factor 152 t_Tx_factor_152 := dk_go 2 a_Tx_factor_150 rfl
theorem a_Tx_factor_153 : dk_at b_Tx_factor 153 t_Tx_factor_153 := dk_go 1 a_Tx_factor_152 rfl
theorem a_Tx_factor_154 : dk_at b_Tx_factor 154 t_Tx_factor_154 := dk_go 1 a_Tx_factor_153 rfl
theorem a_Tx_factor_155 : dk_at b_Tx_factor 155 t_Tx_factor_155 := dk_go 1 a_Tx_factor_154 rfl
theorem a_Tx_factor_156 : dk_at b_Tx_factor 156 t_Tx_factor_156 := dk_go 1 a_Tx_factor_155 rfl
theorem a_Tx_factor_159 : dk_at b_Tx_factor 159 t_Tx_factor_159 := dk_go 3 a_Tx_factor_156 rfl
theorem a_Tx_factor_161 : dk_at b_Tx_factor 161 t_Tx_factor_161 := dk_go 2 a_Tx_factor_159 rfl
theorem a_Tx_factor_164 : dk_at b_Tx_factor 164 t_Tx_factor_164 := dk_go 3 a_Tx_factor_161 rfl
theorem a_Tx_factor_165 : dk_at b_Tx_factor 165 t_Tx_factor_165 := dk_go 1 a_Tx_factor_164 rfl
theorem a_Tx_factor_166 : dk_at b_Tx_factor 166 t_Tx_factor_166 := dk_go 1 a_Tx_factor_165 rfl
theorem a_Tx_factor_167 : dk_at b_Tx_factor 167 t_Tx_factor_167 := dk_go 1 a_Tx_factor_166 rfl
theorem a_Tx_factor_170 : dk_at b_Tx_factor 170 t_Tx_factor_170 := dk_go 3 a_Tx_factor_167 rfl
theorem a_Tx_factor_173 : dk_at b_Tx_factor 173 t_Tx_factor_173 := dk_go 3 a_Tx_factor_170 rfl
theorem a_Tx_factor_174 : dk_at b_Tx_factor 174 t_Tx_factor_174 := dk_go 1 a_Tx_factor_173 rfl
theorem a_Tx_factor_177 : dk_at b_Tx_factor 177 t_Tx_factor_177 := dk_go 3 a_Tx_factor_174 rfl
theorem a_Tx_factor_180 : dk_at b_Tx_factor 180 t_Tx_factor_180 := dk_go 3 a_Tx_factor_177 rfl
theorem a_Tx_factor_181 : dk_at b_Tx_factor 181 t_Tx_factor_181 := dk_go 1 a_Tx_factor_180 rfl
theorem a_Tx_factor_182 : dk_at b_Tx_factor 182 t_Tx_factor_182 := dk_go 1 a_Tx_factor_181 rfl
theorem a_Tx_factor_183 : dk_at b_Tx_factor 183 t_Tx_factor_183 := dk_go 1 a_Tx_factor_182 rfl
theorem a_Tx_factor_186 : dk_at b_Tx_factor 186 t_Tx_factor_186 := dk_go 3 a_Tx_factor_183 rfl
theorem a_Tx_factor_187 : dk_at b_Tx_factor 187 t_Tx_factor_187 := dk_go 1 a_Tx_factor_186 rfl
theorem a_Tx_factor_190 : dk_at b_Tx_factor 190 t_Tx_factor_190 := dk_go 3 a_Tx_factor_187 rfl
theorem a_Tx_factor_192 : dk_at b_Tx_factor 192 t_Tx_factor_192 := dk_go 2 a_Tx_factor_190 rfl
theorem a_Tx_factor_193 : dk_at b_Tx_factor 193 t_Tx_factor_193 := dk_go 1 a_Tx_factor_192 rfl
theorem a_Tx_factor_194 : dk_at b_Tx_factor 194 t_Tx_factor_194 := dk_go 1 a_Tx_factor_193 rfl
theorem a_Tx_factor_197 : dk_at b_Tx_factor 197 t_Tx_factor_197 := dk_go 3 a_Tx_factor_194 rfl
theorem a_Tx_factor_198 : dk_at b_Tx_factor 198 t_Tx_factor_198 := dk_go 1 a_Tx_factor_197 rfl
theorem a_Tx_factor_199 : dk_at b_Tx_factor 199 t_Tx_factor_199 := dk_go 1 a_Tx_factor_198 rfl
theorem a_Tx_factor_200 : dk_at b_Tx_factor 200 t_Tx_factor_200 := dk_go 1 a_Tx_factor_199 rfl
theorem a_Tx_factor_201 : dk_at b_Tx_factor 201 t_Tx_factor_201 := dk_go 1 a_Tx_factor_200 rfl
theorem a_Tx_factor_202 : dk_at b_Tx_factor 202 t_Tx_factor_202 := dk_go 1 a_Tx_factor_201 rfl
theorem a_Tx_factor_204 : dk_at b_Tx_factor 204 t_Tx_factor_204 := dk_go 2 a_Tx_factor_202 rfl
theorem a_Tx_factor_207 : dk_at b_Tx_factor 207 t_Tx_factor_207 := dk_go 3 a_Tx_factor_204 rfl
theorem a_Tx_factor_208 : dk_at b_Tx_factor 208 t_Tx_factor_208 := dk_go 1 a_Tx_factor_207 rfl
theorem a_Tx_factor_211 : dk_at b_Tx_factor 211 t_Tx_factor_211 := dk_go 3 a_Tx_factor_208 rfl
theorem a_Tx_factor_212 : dk_at b_Tx_factor 212 t_Tx_factor_212 := dk_go 1 a_Tx_factor_211 rfl
theorem a_Tx_factor_213 : dk_at b_Tx_factor 213 t_Tx_factor_213 := dk_go 1 a_Tx_factor_212 rfl
theorem a_Tx_factor_216 : dk_at b_Tx_factor 216 t_Tx_factor_216 := dk_go 3 a_Tx_factor_213 rfl
theorem a_Tx_factor_218 : dk_at b_Tx_factor 218 t_Tx_factor_218 := dk_go 2 a_Tx_factor_216 rfl
theorem a_Tx_factor_219 : dk_at b_Tx_factor 219 t_Tx_factor_219 := dk_go 1 a_Tx_factor_218 rfl
theorem a_Tx_factor_220 : dk_at b_Tx_factor 220 t_Tx_factor_220 := dk_go 1 a_Tx_factor_219 rfl
theorem a_Tx_factor_223 : dk_at b_Tx_factor 223 t_Tx_factor_223 := dk_go 3 a_Tx_factor_220 rfl
theorem a_Tx_factor_224 : dk_at b_Tx_factor 224 t_Tx_factor_224 := dk_go 1 a_Tx_factor_223 rfl
theorem a_Tx_factor_225 : dk_at b_Tx_factor 225 t_Tx_factor_225 := dk_go 1 a_Tx_factor_224 rfl
theorem a_Tx_factor_226 : dk_at b_Tx_factor 226 t_Tx_factor_226 := dk_go 1 a_Tx_factor_225 rfl
theorem a_Tx_factor_227 : dk_at b_Tx_factor 227 t_Tx_factor_227 := dk_go 1 a_Tx_factor_226 rfl
theorem a_Tx_factor_228 : dk_at b_Tx_factor 228 t_Tx_factor_228 := dk_go 1 a_Tx_factor_227 rfl
theorem a_Tx_factor_229 : dk_at b_Tx_factor 229 t_Tx_factor_229 := dk_go 1 a_Tx_factor_228 rfl
theorem a_Tx_factor_230 : dk_at b_Tx_factor 230 t_Tx_factor_230 := dk_go 1 a_Tx_factor_229 rfl
theorem a_Tx_factor_233 : dk_at b_Tx_factor 233 t_Tx_factor_233 := dk_go 3 a_Tx_factor_230 rfl
theorem a_Tx_factor_236 : dk_at b_Tx_factor 236 t_Tx_factor_236 := dk_go 3 a_Tx_factor_233 rfl
theorem a_Tx_factor_237 : dk_at b_Tx_factor 237 t_Tx_factor_237 := dk_go 1 a_Tx_factor_236 rfl
theorem a_Tx_factor_238 : dk_at b_Tx_factor 238 t_Tx_factor_238 := dk_go 1 a_Tx_factor_237 rfl
theorem a_Tx_factor_239 : dk_at b_Tx_factor 239 t_Tx_factor_239 := dk_go 1 a_Tx_factor_238 rfl
theorem a_Tx_factor_240 : dk_at b_Tx_factor 240 t_Tx_factor_240 := dk_go 1 a_Tx_factor_239 rfl
theorem a_Tx_factor_241 : dk_at b_Tx_factor 241 t_Tx_factor_241 := dk_go 1 a_Tx_factor_240 rfl
theorem a_Tx_factor_242 : dk_at b_Tx_factor 242 t_Tx_factor_242 := dk_go 1 a_Tx_factor_241 rfl
theorem a_Tx_factor_243 : dk_at b_Tx_factor 243 t_Tx_factor_243 := dk_go 1 a_Tx_factor_242 rfl
theorem a_Tx_factor_246 : dk_at b_Tx_factor 246 t_Tx_factor_246 := dk_go 3 a_Tx_factor_243 rfl
theorem a_Tx_factor_249 : dk_at b_Tx_factor 249 t_Tx_factor_249 := dk_go 3 a_Tx_factor_246 rfl
theorem a_Tx_factor_252 : dk_at b_Tx_factor 252 t_Tx_factor_252 := dk_go 3 a_Tx_factor_249 rfl
theorem a_Tx_factor_253 : dk_at b_Tx_factor 253 t_Tx_factor_253 := dk_go 1 a_Tx_factor_252 rfl
theorem d_Tx_factor_0 : decode b_Tx_factor 0 = .ok (.aload_n 0, 1) := dk_0 a_Tx_factor_0 (dko_42 _)
theorem d_Tx_factor_1 : decode b_Tx_factor 1 = .ok (.getfield 143, 3) := dk_U2 a_Tx_factor_1 (dko_180 _) rfl
theorem d_Tx_factor_4 : decode b_Tx_factor 4 = .ok (.istore_n 1, 1) := dk_0 a_Tx_factor_4 (dko_60 _)
theorem d_Tx_factor_5 : decode b_Tx_factor 5 = .ok (.aload_n 0, 1) := dk_0 a_Tx_factor_5 (dko_42 _)
theorem d_Tx_factor_6 : decode b_Tx_factor 6 = .ok (.getfield 146, 3) := dk_U2 a_Tx_factor_6 (dko_180 _) rfl
theorem d_Tx_factor_9 : decode b_Tx_factor 9 = .ok (.sipush 2000, 3) := dk_S2 a_Tx_factor_9 (dko_17 _) (by decide +kernel)
theorem d_Tx_factor_12 : decode b_Tx_factor 12 = .ok (.if_icmp .ne 9, 3) := dk_S2 a_Tx_factor_12 (dko_160 _) (by decide +kernel)
theorem d_Tx_factor_15 : decode b_Tx_factor 15 = .ok (.aload_n 0, 1) := dk_0 a_Tx_factor_15 (dko_42 _)
theorem d_Tx_factor_16 : decode b_Tx_factor 16 = .ok (.iload_n 1, 1) := dk_0 a_Tx_factor_16 (dko_27 _)
theorem d_Tx_factor_17 : decode b_Tx_factor 17 = .ok (.invokevirtual 225, 3) := dk_U2 a_Tx_factor_17 (dko_182 _) rfl
theorem d_Tx_factor_20 : decode b_Tx_factor 20 = .ok (.ireturn, 1) := dk_0 a_Tx_factor_20 (dko_172 _)
theorem d_Tx_factor_21 : decode b_Tx_factor 21 = .ok (.aload_n 0, 1) := dk_0 a_Tx_factor_21 (dko_42 _)
theorem d_Tx_factor_22 : decode b_Tx_factor 22 = .ok (.getfield 146, 3) := dk_U2 a_Tx_factor_22 (dko_180 _) rfl
theorem d_Tx_factor_25 : decode b_Tx_factor 25 = .ok (.bipush 40, 2) := dk_S1 a_Tx_factor_25 (dko_16 _) (by decide +kernel)
theorem d_Tx_factor_27 : decode b_Tx_factor 27 = .ok (.if_icmp .eq 12, 3) := dk_S2 a_Tx_factor_27 (dko_159 _) (by decide +kernel)
theorem d_Tx_factor_30 : decode b_Tx_factor 30 = .ok (.aload_n 0, 1) := dk_0 a_Tx_factor_30 (dko_42 _)
theorem d_Tx_factor_31 : decode b_Tx_factor 31 = .ok (.getfield 146, 3) := dk_U2 a_Tx_factor_31 (dko_180 _) rfl
theorem d_Tx_factor_34 : decode b_Tx_factor 34 = .ok (.bipush 45, 2) := dk_S1 a_Tx_factor_34 (dko_16 _) (by decide +kernel)
theorem d_Tx_factor_36 : decode b_Tx_factor 36 = .ok (.if_icmp .ne 129, 3) := dk_S2 a_Tx_factor_36 (dko_160 _) (by decide +kernel)
theorem d_Tx_factor_39 : decode b_Tx_factor 39 = .ok (.aload_n 0, 1) := dk_0 a_Tx_factor_39 (dko_42 _)
theorem d_Tx_factor_40 : decode b_Tx_factor 40 = .ok (.getfield 146, 3) := dk_U2 a_Tx_factor_40 (dko_180 _) rfl
theorem d_Tx_factor_43 : decode b_Tx_factor 43 = .ok (.bipush 45, 2) := dk_S1 a_Tx_factor_43 (dko_16 _) (by decide +kernel)
theorem d_Tx_factor_45 : decode b_Tx_factor 45 = .ok (.if_icmp .ne 7, 3) := dk_S2 a_Tx_factor_45 (dko_160 _) (by decide +kernel)
theorem d_Tx_factor_48 : decode b_Tx_factor 48 = .ok (.iconst 1, 1) := dk_0 a_Tx_factor_48 (dko_4 _)
theorem d_Tx_factor_49 : decode b_Tx_factor 49 = .ok (.goto 4, 3) := dk_S2 a_Tx_factor_49 (dko_167 _) (by decide +kernel)
theorem d_Tx_factor_52 : decode b_Tx_factor 52 = .ok (.iconst 0, 1) := dk_0 a_Tx_factor_52 (dko_3 _)
theorem d_Tx_factor_53 : decode b_Tx_factor 53 = .ok (.istore_n 2, 1) := dk_0 a_Tx_factor_53 (dko_61 _)
theorem d_Tx_factor_54 : decode b_Tx_factor 54 = .ok (.aload_n 0, 1) := dk_0 a_Tx_factor_54 (dko_42 _)
theorem d_Tx_factor_55 : decode b_Tx_factor 55 = .ok (.getfield 228, 3) := dk_U2 a_Tx_factor_55 (dko_180 _) rfl
theorem d_Tx_factor_58 : decode b_Tx_factor 58 = .ok (.bipush 20, 2) := dk_S1 a_Tx_factor_58 (dko_16 _) (by decide +kernel)
theorem d_Tx_factor_60 : decode b_Tx_factor 60 = .ok (.if_icmp .ne 8, 3) := dk_S2 a_Tx_factor_60 (dko_160 _) (by decide +kernel)
theorem d_Tx_factor_63 : decode b_Tx_factor 63 = .ok (.aload_n 0, 1) := dk_0 a_Tx_factor_63 (dko_42 _)
theorem d_Tx_factor_64 : decode b_Tx_factor 64 = .ok (.invokevirtual 192, 3) := dk_U2 a_Tx_factor_64 (dko_182 _) rfl
theorem d_Tx_factor_67 : decode b_Tx_factor 67 = .ok (.ireturn, 1) := dk_0 a_Tx_factor_67 (dko_172 _)
theorem d_Tx_factor_68 : decode b_Tx_factor 68 = .ok (.aload_n 0, 1) := dk_0 a_Tx_factor_68 (dko_42 _)
theorem d_Tx_factor_69 : decode b_Tx_factor 69 = .ok (.dup, 1) := dk_0 a_Tx_factor_69 (dko_89 _)
theorem d_Tx_factor_70 : decode b_Tx_factor 70 = .ok (.getfield 228, 3) := dk_U2 a_Tx_factor_70 (dko_180 _) rfl
theorem d_Tx_factor_73 : decode b_Tx_factor 73 = .ok (.iconst 1, 1) := dk_0 a_Tx_factor_73 (dko_4 _)
theorem d_Tx_factor_74 : decode b_Tx_factor 74 = .ok (.iadd, 1) := dk_0 a_Tx_factor_74 (dko_96 _)
theorem d_Tx_factor_75 : decode b_Tx_factor 75 = .ok (.putfield 228, 3) := dk_U2 a_Tx_factor_75 (dko_181 _) rfl
theorem d_Tx_factor_78 : decode b_Tx_factor 78 = .ok (.aload_n 0, 1) := dk_0 a_Tx_factor_78 (dko_42 _)
theorem d_Tx_factor_79 : decode b_Tx_factor 79 = .ok (.invokevirtual 182, 3) := dk_U2 a_Tx_factor_79 (dko_182 _) rfl
theorem d_Tx_factor_82 : decode b_Tx_factor 82 = .ok (.ifCond .ne 5, 3) := dk_S2 a_Tx_factor_82 (dko_154 _) (by decide +kernel)
theorem d_Tx_factor_85 : decode b_Tx_factor 85 = .ok (.iconst (-1), 1) := dk_0 a_Tx_factor_85 (dko_2 _)
theorem d_Tx_factor_86 : decode b_Tx_factor 86 = .ok (.ireturn, 1) := dk_0 a_Tx_factor_86 (dko_172 _)
theorem d_Tx_factor_87 : decode b_Tx_factor 87 = .ok (.iload_n 2, 1) := dk_0 a_Tx_factor_87 (dko_28 _)
theorem d_Tx_factor_88 : decode b_Tx_factor 88 = .ok (.ifCond .eq 10, 3) := dk_S2 a_Tx_factor_88 (dko_153 _) (by decide +kernel)
theorem d_Tx_factor_91 : decode b_Tx_factor 91 = .ok (.aload_n 0, 1) := dk_0 a_Tx_factor_91 (dko_42 _)
theorem d_Tx_factor_92 : decode b_Tx_factor 92 = .ok (.invokevirtual 222, 3) := dk_U2 a_Tx_factor_92 (dko_182 _) rfl
theorem d_Tx_factor_95 : decode b_Tx_factor 95 = .ok (.goto 7, 3) := dk_S2 a_Tx_factor_95 (dko_167 _) (by decide +kernel)
theorem d_Tx_factor_98 : decode b_Tx_factor 98 = .ok (.aload_n 0, 1) := dk_0 a_Tx_factor_98 (dko_42 _)
theorem d_Tx_factor_99 : decode b_Tx_factor 99 = .ok (.invokevirtual 231, 3) := dk_U2 a_Tx_factor_99 (dko_182 _) rfl
theorem d_Tx_factor_102 : decode b_Tx_factor 102 = .ok (.istore_n 3, 1) := dk_0 a_Tx_factor_102 (dko_62 _)
theorem d_Tx_factor_103 : decode b_Tx_factor 103 = .ok (.iload_n 3, 1) := dk_0 a_Tx_factor_103 (dko_29 _)
theorem d_Tx_factor_104 : decode b_Tx_factor 104 = .ok (.ifCond .lt 16, 3) := dk_S2 a_Tx_factor_104 (dko_155 _) (by decide +kernel)
theorem d_Tx_factor_107 : decode b_Tx_factor 107 = .ok (.iload_n 2, 1) := dk_0 a_Tx_factor_107 (dko_28 _)
theorem d_Tx_factor_108 : decode b_Tx_factor 108 = .ok (.ifCond .ne 14, 3) := dk_S2 a_Tx_factor_108 (dko_154 _) (by decide +kernel)
theorem d_Tx_factor_111 : decode b_Tx_factor 111 = .ok (.aload_n 0, 1) := dk_0 a_Tx_factor_111 (dko_42 _)
theorem d_Tx_factor_112 : decode b_Tx_factor 112 = .ok (.bipush 41, 2) := dk_S1 a_Tx_factor_112 (dko_16 _) (by decide +kernel)
theorem d_Tx_factor_114 : decode b_Tx_factor 114 = .ok (.invokevirtual 234, 3) := dk_U2 a_Tx_factor_114 (dko_182 _) rfl
theorem d_Tx_factor_117 : decode b_Tx_factor 117 = .ok (.ifCond .ne 5, 3) := dk_S2 a_Tx_factor_117 (dko_154 _) (by decide +kernel)
theorem d_Tx_factor_120 : decode b_Tx_factor 120 = .ok (.iconst (-1), 1) := dk_0 a_Tx_factor_120 (dko_2 _)
theorem d_Tx_factor_121 : decode b_Tx_factor 121 = .ok (.ireturn, 1) := dk_0 a_Tx_factor_121 (dko_172 _)
theorem d_Tx_factor_122 : decode b_Tx_factor 122 = .ok (.aload_n 0, 1) := dk_0 a_Tx_factor_122 (dko_42 _)
theorem d_Tx_factor_123 : decode b_Tx_factor 123 = .ok (.dup, 1) := dk_0 a_Tx_factor_123 (dko_89 _)
theorem d_Tx_factor_124 : decode b_Tx_factor 124 = .ok (.getfield 228, 3) := dk_U2 a_Tx_factor_124 (dko_180 _) rfl
theorem d_Tx_factor_127 : decode b_Tx_factor 127 = .ok (.iconst 1, 1) := dk_0 a_Tx_factor_127 (dko_4 _)
theorem d_Tx_factor_128 : decode b_Tx_factor 128 = .ok (.isub, 1) := dk_0 a_Tx_factor_128 (dko_100 _)
theorem d_Tx_factor_129 : decode b_Tx_factor 129 = .ok (.putfield 228, 3) := dk_U2 a_Tx_factor_129 (dko_181 _) rfl
theorem d_Tx_factor_132 : decode b_Tx_factor 132 = .ok (.iload_n 2, 1) := dk_0 a_Tx_factor_132 (dko_28 _)
theorem d_Tx_factor_133 : decode b_Tx_factor 133 = .ok (.ifCond .ne 5, 3) := dk_S2 a_Tx_factor_133 (dko_154 _) (by decide +kernel)
theorem d_Tx_factor_136 : decode b_Tx_factor 136 = .ok (.iload_n 3, 1) := dk_0 a_Tx_factor_136 (dko_29 _)
theorem d_Tx_factor_137 : decode b_Tx_factor 137 = .ok (.ireturn, 1) := dk_0 a_Tx_factor_137 (dko_172 _)
theorem d_Tx_factor_138 : decode b_Tx_factor 138 = .ok (.aload_n 0, 1) := dk_0 a_Tx_factor_138 (dko_42 _)
theorem d_Tx_factor_139 : decode b_Tx_factor 139 = .ok (.getfield 201, 3) := dk_U2 a_Tx_factor_139 (dko_180 _) rfl
theorem d_Tx_factor_142 : decode b_Tx_factor 142 = .ok (.istore 4, 2) := dk_U1 a_Tx_factor_142 (dko_54 _) rfl
theorem d_Tx_factor_144 : decode b_Tx_factor 144 = .ok (.aload_n 0, 1) := dk_0 a_Tx_factor_144 (dko_42 _)
theorem d_Tx_factor_145 : decode b_Tx_factor 145 = .ok (.iload_n 3, 1) := dk_0 a_Tx_factor_145 (dko_29 _)
theorem d_Tx_factor_146 : decode b_Tx_factor 146 = .ok (.invokevirtual 204, 3) := dk_U2 a_Tx_factor_146 (dko_182 _) rfl
theorem d_Tx_factor_149 : decode b_Tx_factor 149 = .ok (.aload_n 0, 1) := dk_0 a_Tx_factor_149 (dko_42 _)
theorem d_Tx_factor_150 : decode b_Tx_factor 150 = .ok (.bipush 6, 2) := dk_S1 a_Tx_factor_150 (dko_16 _) (by decide +kernel)
theorem d_Tx_factor_152 : decode b_Tx_factor 152 = .ok (.lconst 0, 1) := dk_0 a_Tx_factor_152 (dko_9 _)
theorem d_Tx_factor_153 : decode b_Tx_factor 153 = .ok (.iload_n 1, 1) := dk_0 a_Tx_factor_153 (dko_27 _)
theorem d_Tx_factor_154 : decode b_Tx_factor 154 = .ok (.aload_n 0, 1) := dk_0 a_Tx_factor_154 (dko_42 _)
theorem d_Tx_factor_155 : decode b_Tx_factor 155 = .ok (.iload_n 3, 1) := dk_0 a_Tx_factor_155 (dko_29 _)
theorem d_Tx_factor_156 : decode b_Tx_factor 156 = .ok (.invokevirtual 215, 3) := dk_U2 a_Tx_factor_156 (dko_182 _) rfl
theorem d_Tx_factor_159 : decode b_Tx_factor 159 = .ok (.iload 4, 2) := dk_U1 a_Tx_factor_159 (dko_21 _) rfl
theorem d_Tx_factor_161 : decode b_Tx_factor 161 = .ok (.invokevirtual 208, 3) := dk_U2 a_Tx_factor_161 (dko_182 _) rfl
theorem d_Tx_factor_164 : decode b_Tx_factor 164 = .ok (.ireturn, 1) := dk_0 a_Tx_factor_164 (dko_172 _)
theorem d_Tx_factor_165 : decode b_Tx_factor 165 = .ok (.aload_n 0, 1) := dk_0 a_Tx_factor_165 (dko_42 _)
theorem d_Tx_factor_166 : decode b_Tx_factor 166 = .ok (.iconst (-1), 1) := dk_0 a_Tx_factor_166 (dko_2 _)
theorem d_Tx_factor_167 : decode b_Tx_factor 167 = .ok (.invokevirtual 237, 3) := dk_U2 a_Tx_factor_167 (dko_182 _) rfl
theorem d_Tx_factor_170 : decode b_Tx_factor 170 = .ok (.ifCond .eq 10, 3) := dk_S2 a_Tx_factor_170 (dko_153 _) (by decide +kernel)
theorem d_Tx_factor_173 : decode b_Tx_factor 173 = .ok (.aload_n 0, 1) := dk_0 a_Tx_factor_173 (dko_42 _)
theorem d_Tx_factor_174 : decode b_Tx_factor 174 = .ok (.invokevirtual 240, 3) := dk_U2 a_Tx_factor_174 (dko_182 _) rfl
theorem d_Tx_factor_177 : decode b_Tx_factor 177 = .ok (.goto 4, 3) := dk_S2 a_Tx_factor_177 (dko_167 _) (by decide +kernel)
theorem d_Tx_factor_180 : decode b_Tx_factor 180 = .ok (.iconst (-1), 1) := dk_0 a_Tx_factor_180 (dko_2 _)
theorem d_Tx_factor_181 : decode b_Tx_factor 181 = .ok (.istore_n 2, 1) := dk_0 a_Tx_factor_181 (dko_61 _)
theorem d_Tx_factor_182 : decode b_Tx_factor 182 = .ok (.iload_n 2, 1) := dk_0 a_Tx_factor_182 (dko_28 _)
theorem d_Tx_factor_183 : decode b_Tx_factor 183 = .ok (.ifCond .lt 24, 3) := dk_S2 a_Tx_factor_183 (dko_155 _) (by decide +kernel)
theorem d_Tx_factor_186 : decode b_Tx_factor 186 = .ok (.aload_n 0, 1) := dk_0 a_Tx_factor_186 (dko_42 _)
theorem d_Tx_factor_187 : decode b_Tx_factor 187 = .ok (.getfield 47, 3) := dk_U2 a_Tx_factor_187 (dko_180 _) rfl
theorem d_Tx_factor_190 : decode b_Tx_factor 190 = .ok (.bipush 40, 2) := dk_S1 a_Tx_factor_190 (dko_16 _) (by decide +kernel)
theorem d_Tx_factor_192 : decode b_Tx_factor 192 = .ok (.iconst 1, 1) := dk_0 a_Tx_factor_192 (dko_4 _)
theorem d_Tx_factor_193 : decode b_Tx_factor 193 = .ok (.aload_n 0, 1) := dk_0 a_Tx_factor_193 (dko_42 _)
theorem d_Tx_factor_194 : decode b_Tx_factor 194 = .ok (.getfield 186, 3) := dk_U2 a_Tx_factor_194 (dko_180 _) rfl
theorem d_Tx_factor_197 : decode b_Tx_factor 197 = .ok (.isub, 1) := dk_0 a_Tx_factor_197 (dko_100 _)
theorem d_Tx_factor_198 : decode b_Tx_factor 198 = .ok (.imul, 1) := dk_0 a_Tx_factor_198 (dko_104 _)
theorem d_Tx_factor_199 : decode b_Tx_factor 199 = .ok (.iload_n 2, 1) := dk_0 a_Tx_factor_199 (dko_28 _)
theorem d_Tx_factor_200 : decode b_Tx_factor 200 = .ok (.iadd, 1) := dk_0 a_Tx_factor_200 (dko_96 _)
theorem d_Tx_factor_201 : decode b_Tx_factor 201 = .ok (.iaload, 1) := dk_0 a_Tx_factor_201 (dko_46 _)
theorem d_Tx_factor_202 : decode b_Tx_factor 202 = .ok (.bipush 24, 2) := dk_S1 a_Tx_factor_202 (dko_16 _) (by decide +kernel)
theorem d_Tx_factor_204 : decode b_Tx_factor 204 = .ok (.if_icmp .ne 8, 3) := dk_S2 a_Tx_factor_204 (dko_160 _) (by decide +kernel)
theorem d_Tx_factor_207 : decode b_Tx_factor 207 = .ok (.aload_n 0, 1) := dk_0 a_Tx_factor_207 (dko_42 _)
theorem d_Tx_factor_208 : decode b_Tx_factor 208 = .ok (.invokevirtual 192, 3) := dk_U2 a_Tx_factor_208 (dko_182 _) rfl
theorem d_Tx_factor_211 : decode b_Tx_factor 211 = .ok (.ireturn, 1) := dk_0 a_Tx_factor_211 (dko_172 _)
theorem d_Tx_factor_212 : decode b_Tx_factor 212 = .ok (.aload_n 0, 1) := dk_0 a_Tx_factor_212 (dko_42 _)
theorem d_Tx_factor_213 : decode b_Tx_factor 213 = .ok (.getfield 50, 3) := dk_U2 a_Tx_factor_213 (dko_180 _) rfl
theorem d_Tx_factor_216 : decode b_Tx_factor 216 = .ok (.bipush 40, 2) := dk_S1 a_Tx_factor_216 (dko_16 _) (by decide +kernel)
theorem d_Tx_factor_218 : decode b_Tx_factor 218 = .ok (.iconst 1, 1) := dk_0 a_Tx_factor_218 (dko_4 _)
theorem d_Tx_factor_219 : decode b_Tx_factor 219 = .ok (.aload_n 0, 1) := dk_0 a_Tx_factor_219 (dko_42 _)
theorem d_Tx_factor_220 : decode b_Tx_factor 220 = .ok (.getfield 186, 3) := dk_U2 a_Tx_factor_220 (dko_180 _) rfl
theorem d_Tx_factor_223 : decode b_Tx_factor 223 = .ok (.isub, 1) := dk_0 a_Tx_factor_223 (dko_100 _)
theorem d_Tx_factor_224 : decode b_Tx_factor 224 = .ok (.imul, 1) := dk_0 a_Tx_factor_224 (dko_104 _)
theorem d_Tx_factor_225 : decode b_Tx_factor 225 = .ok (.iload_n 2, 1) := dk_0 a_Tx_factor_225 (dko_28 _)
theorem d_Tx_factor_226 : decode b_Tx_factor 226 = .ok (.iadd, 1) := dk_0 a_Tx_factor_226 (dko_96 _)
theorem d_Tx_factor_227 : decode b_Tx_factor 227 = .ok (.iaload, 1) := dk_0 a_Tx_factor_227 (dko_46 _)
theorem d_Tx_factor_228 : decode b_Tx_factor 228 = .ok (.istore_n 3, 1) := dk_0 a_Tx_factor_228 (dko_62 _)
theorem d_Tx_factor_229 : decode b_Tx_factor 229 = .ok (.aload_n 0, 1) := dk_0 a_Tx_factor_229 (dko_42 _)
theorem d_Tx_factor_230 : decode b_Tx_factor 230 = .ok (.invokevirtual 182, 3) := dk_U2 a_Tx_factor_230 (dko_182 _) rfl
theorem d_Tx_factor_233 : decode b_Tx_factor 233 = .ok (.ifCond .eq 19, 3) := dk_S2 a_Tx_factor_233 (dko_153 _) (by decide +kernel)
theorem d_Tx_factor_236 : decode b_Tx_factor 236 = .ok (.aload_n 0, 1) := dk_0 a_Tx_factor_236 (dko_42 _)
theorem d_Tx_factor_237 : decode b_Tx_factor 237 = .ok (.iconst 1, 1) := dk_0 a_Tx_factor_237 (dko_4 _)
theorem d_Tx_factor_238 : decode b_Tx_factor 238 = .ok (.iload_n 2, 1) := dk_0 a_Tx_factor_238 (dko_28 _)
theorem d_Tx_factor_239 : decode b_Tx_factor 239 = .ok (.i2l, 1) := dk_0 a_Tx_factor_239 (dko_133 _)
theorem d_Tx_factor_240 : decode b_Tx_factor 240 = .ok (.iload_n 1, 1) := dk_0 a_Tx_factor_240 (dko_27 _)
theorem d_Tx_factor_241 : decode b_Tx_factor 241 = .ok (.iload_n 3, 1) := dk_0 a_Tx_factor_241 (dko_29 _)
theorem d_Tx_factor_242 : decode b_Tx_factor 242 = .ok (.aload_n 0, 1) := dk_0 a_Tx_factor_242 (dko_42 _)
theorem d_Tx_factor_243 : decode b_Tx_factor 243 = .ok (.getfield 201, 3) := dk_U2 a_Tx_factor_243 (dko_180 _) rfl
theorem d_Tx_factor_246 : decode b_Tx_factor 246 = .ok (.invokevirtual 208, 3) := dk_U2 a_Tx_factor_246 (dko_182 _) rfl
theorem d_Tx_factor_249 : decode b_Tx_factor 249 = .ok (.goto 4, 3) := dk_S2 a_Tx_factor_249 (dko_167 _) (by decide +kernel)
theorem d_Tx_factor_252 : decode b_Tx_factor 252 = .ok (.iconst (-1), 1) := dk_0 a_Tx_factor_252 (dko_2 _)
theorem d_Tx_factor_253 : decode b_Tx_factor 253 = .ok (.ireturn, 1) := dk_0 a_Tx_factor_253 (dko_172 _)
set_option maxHeartbeats 4000000 in
set_option maxRecDepth 100000 in
theorem ok_Tx_factor (pc : Nat) : OpS mt mi_Tx_factor pc (cs_Tx_factor pc) := (os_n (os_n (os_n (os_n (os_n (os_n (os_n (os_l (so_aload_n d_Tx_factor_0 rfl)) (os_l (so_get (C := R_Tx) (T := F_Tx) (N := 39) (j := 7) in_Tx rfl (by decide) mw_1586 d_Tx_factor_1))) (os_n (os_l (so_istore_n d_Tx_factor_4 rfl (by decide))) (os_l (so_aload_n d_Tx_factor_5 rfl)))) (os_n (os_n (os_l (so_get (C := R_Tx) (T := F_Tx) (N := 39) (j := 4) in_Tx rfl (by decide) mw_1583 d_Tx_factor_6)) (os_l (so_sipush d_Tx_factor_9 (by decide)))) (os_n (os_l (so_icne d_Tx_factor_12 (by decide))) (os_l (so_aload_n d_Tx_factor_15 rfl))))) (os_n (os_n (os_n (os_l (so_iload_n d_Tx_factor_16 rfl)) (os_l (so_callV (iv := mi_Tx_numberNode) rfl rfl rfl mw_2295 mw_2297 sl_130 mw_19 mw_2298 ⟨by decide +kernel, by decide +kernel, by decide +kernel⟩ (by decide) d_Tx_factor_17))) (os_n (os_l (so_ireturn rfl d_Tx_factor_20)) (os_l (so_aload_n d_Tx_factor_21 rfl)))) (os_n (os_n (os_l (so_get (C := R_Tx) (T := F_Tx) (N := 39) (j := 4) in_Tx rfl (by decide) mw_1583 d_Tx_factor_22)) (os_l (so_bipush d_Tx_factor_25 (by decide)))) (os_n (os_l (so_iceq d_Tx_factor_27 (by decide))) (os_n (os_l (so_aload_n d_Tx_factor_30 rfl)) (os_l (so_get (C := R_Tx) (T := F_Tx) (N := 39) (j := 4) in_Tx rfl (by decide) mw_1583 d_Tx_factor_31))))))) (os_n (os_n (os_n (os_n (os_l (so_bipush d_Tx_factor_34 (by decide))) (os_l (so_icne d_Tx_factor_36 (by decide)))) (os_n (os_l (so_aload_n d_Tx_factor_39 rfl)) (os_l (so_get (C := R_Tx) (T := F_Tx) (N := 39) (j := 4) in_Tx rfl (by decide) mw_1583 d_Tx_factor_40)))) (os_n (os_n (os_l (so_bipush d_Tx_factor_43 (by decide))) (os_l (so_icne d_Tx_factor_45 (by decide)))) (os_n (os_l (so_iconst d_Tx_factor_48 (by decide))) (os_n (os_l (so_goto d_Tx_factor_49 (by decide))) (os_l (so_iconst d_Tx_factor_52 (by decide))))))) (os_n (os_n (os_n (os_l (so_istore_n d_Tx_factor_53 rfl (by decide))) (os_l (so_aload_n d_Tx_factor_54 rfl))) (os_n (os_l (so_get (C := R_Tx) (T := F_Tx) (N := 39) (j := 11) in_Tx rfl (by decide) mw_1590 d_Tx_factor_55)) (os_l (so_bipush d_Tx_factor_58 (by decide))))) (os_n (os_n (os_l (so_icne d_Tx_factor_60 (by decide))) (os_l (so_aload_n d_Tx_factor_63 rfl))) (os_n (os_l (so_callV (iv := mi_Tx_bad) rfl rfl rfl mw_2255 mw_2257 sl_120 mw_19 mw_2258 ⟨by decide +kernel, by decide +kernel, by decide +kernel⟩ (by decide) d_Tx_factor_64)) (os_n (os_l (so_ireturn rfl d_Tx_factor_67)) (os_l (so_aload_n d_Tx_factor_68 rfl)))))))) (os_n (os_n (os_n (os_n (os_n (os_l (so_dup d_Tx_factor_69)) (os_l (so_get (C := R_Tx) (T := F_Tx) (N := 39) (j := 11) in_Tx rfl (by decide) mw_1590 d_Tx_factor_70))) (os_n (os_l (so_iconst d_Tx_factor_73 (by decide))) (os_l (so_iadd d_Tx_factor_74)))) (os_n (os_n (os_l (so_putI (C := R_Tx) (T := F_Tx) (N := 39) (j := 11) in_Tx t_Tx_ok n_Tx rfl (by decide) mw_1590 rfl (by decide +kernel) d_Tx_factor_75)) (os_l (so_aload_n d_Tx_factor_78 rfl))) (os_n (os_l (so_callV (iv := mi_Tx_go) rfl rfl rfl mw_2182 mw_2184 sl_111 mw_19 mw_2185 ⟨by decide +kernel, by decide +kernel, by decide +kernel⟩ (by decide) d_Tx_factor_79)) (os_n (os_l (so_ifne d_Tx_factor_82 (by decide))) (os_l (so_iconst d_Tx_factor_85 (by decide))))))) (os_n (os_n (os_n (os_l (so_ireturn rfl d_Tx_factor_86)) (os_l (so_iload_n d_Tx_factor_87 rfl))) (os_n (os_l (so_ifeq d_Tx_factor_88 (by decide))) (os_l (so_aload_n d_Tx_factor_91 rfl)))) (os_n (os_n (os_l (so_callV (iv := mi_Tx_factor) rfl rfl rfl mw_2291 mw_2293 sl_129 mw_19 mw_2294 ⟨by decide +kernel, by decide +kernel, by decide +kernel⟩ (by decide) d_Tx_factor_92)) (os_l (so_goto d_Tx_factor_95 (by decide)))) (os_n (os_l (so_aload_n d_Tx_factor_98 rfl)) (os_n (os_l (so_callV (iv := mi_Tx_sum) rfl rfl rfl mw_2283 mw_2285 sl_127 mw_19 mw_2286 ⟨by decide +kernel, by decide +kernel, by decide +kernel⟩ (by decide) d_Tx_factor_99)) (os_l (so_istore_n d_Tx_factor_102 rfl (by decide)))))))) (os_n (os_n (os_n (os_n (os_l (so_iload_n d_Tx_factor_103 rfl)) (os_l (so_iflt d_Tx_factor_104 (by decide)))) (os_n (os_l (so_iload_n d_Tx_factor_107 rfl)) (os_l (so_ifne d_Tx_factor_108 (by decide))))) (os_n (os_n (os_l (so_aload_n d_Tx_factor_111 rfl)) (os_l (so_bipush d_Tx_factor_112 (by decide)))) (os_n (os_l (so_callV (iv := mi_Tx_over) rfl rfl rfl mw_2263 mw_2265 sl_122 mw_19 mw_2266 ⟨by decide +kernel, by decide +kernel, by decide +kernel⟩ (by decide) d_Tx_factor_114)) (os_n (os_l (so_ifne d_Tx_factor_117 (by decide))) (os_l (so_iconst d_Tx_factor_120 (by decide))))))) (os_n (os_n (os_n (os_l (so_ireturn rfl d_Tx_factor_121)) (os_l (so_aload_n d_Tx_factor_122 rfl))) (os_n (os_l (so_dup d_Tx_factor_123)) (os_l (so_get (C := R_Tx) (T := F_Tx) (N := 39) (j := 11) in_Tx rfl (by decide) mw_1590 d_Tx_factor_124)))) (os_n (os_n (os_l (so_iconst d_Tx_factor_127 (by decide))) (os_l (so_isub d_Tx_factor_128))) (os_n (os_l (so_putI (C := R_Tx) (T := F_Tx) (N := 39) (j := 11) in_Tx t_Tx_ok n_Tx rfl (by decide) mw_1590 rfl (by decide +kernel) d_Tx_factor_129)) (os_n (os_l (so_iload_n d_Tx_factor_132 rfl)) (os_l (so_ifne d_Tx_factor_133 (by decide)))))))))) (os_n (os_n (os_n (os_n (os_n (os_n (os_l (so_iload_n d_Tx_factor_136 rfl)) (os_l (so_ireturn rfl d_Tx_factor_137))) (os_n (os_l (so_aload_n d_Tx_factor_138 rfl)) (os_l (so_get (C := R_Tx) (T := F_Tx) (N := 39) (j := 35) in_Tx rfl (by decide) mw_1623 d_Tx_factor_139)))) (os_n (os_n (os_l (so_istore d_Tx_factor_142 (by decide))) (os_l (so_aload_n d_Tx_factor_144 rfl))) (os_n (os_l (so_iload_n d_Tx_factor_145 rfl)) (os_n (os_l (so_callV (iv := mi_Tx_push) rfl rfl rfl mw_2310 mw_2312 sl_133 mw_19 mw_2313 ⟨by decide +kernel, by decide +kernel, by decide +kernel⟩ (by decide) d_Tx_factor_146)) (os_l (so_aload_n d_Tx_factor_149 rfl)))))) (os_n (os_n (os_n (os_l (so_bipush d_Tx_factor_150 (by decide))) (os_l (so_lconst d_Tx_factor_152 (by decide)))) (os_n (os_l (so_iload_n d_Tx_factor_153 rfl)) (os_l (so_aload_n d_Tx_factor_154 rfl)))) (os_n (os_n (os_l (so_iload_n d_Tx_factor_155 rfl)) (os_l (so_callV (iv := mi_Tx_unitIn) rfl rfl rfl mw_2314 mw_2316 sl_134 mw_19 mw_2317 ⟨by decide +kernel, by decide +kernel, by decide +kernel⟩ (by decide) d_Tx_factor_156))) (os_n (os_l (so_iload d_Tx_factor_159)) (os_n (os_l (so_callV (iv := mi_Tx_node0) rfl rfl rfl mw_2302 mw_2304 sl_131 mw_19 mw_2305 ⟨by decide +kernel, by decide +kernel, by decide +kernel⟩ (by decide) d_Tx_factor_161)) (os_l (so_ireturn rfl d_Tx_factor_164))))))) (os_n (os_n (os_n (os_n (os_l (so_aload_n d_Tx_factor_165 rfl)) (os_l (so_iconst d_Tx_factor_166 (by decide)))) (os_n (os_l (so_callV (iv := mi_Tx_isWord) rfl rfl rfl mw_2239 mw_2241 sl_116 mw_19 mw_2242 ⟨by decide +kernel, by decide +kernel, by decide +kernel⟩ (by decide) d_Tx_factor_167)) (os_l (so_ifeq d_Tx_factor_170 (by decide))))) (os_n (os_n (os_l (so_aload_n d_Tx_factor_173 rfl)) (os_l (so_callV (iv := mi_Tx_nameOf) rfl rfl rfl mw_2251 mw_2253 sl_119 mw_19 mw_2254 ⟨by decide +kernel, by decide +kernel, by decide +kernel⟩ (by decide) d_Tx_factor_174))) (os_n (os_l (so_goto d_Tx_factor_177 (by decide))) (os_n (os_l (so_iconst d_Tx_factor_180 (by decide))) (os_l (so_istore_n d_Tx_factor_181 rfl (by decide))))))) (os_n (os_n (os_n (os_l (so_iload_n d_Tx_factor_182 rfl)) (os_l (so_iflt d_Tx_factor_183 (by decide)))) (os_n (os_l (so_aload_n d_Tx_factor_186 rfl)) (os_l (so_get (C := R_Tx) (T := F_Tx) (N := 39) (j := 27) in_Tx rfl (by decide) mw_1611 d_Tx_factor_187)))) (os_n (os_n (os_l (so_bipush d_Tx_factor_190 (by decide))) (os_l (so_iconst d_Tx_factor_192 (by decide)))) (os_n (os_l (so_aload_n d_Tx_factor_193 rfl)) (os_n (os_l (so_get (C := R_Tx) (T := F_Tx) (N := 39) (j := 12) in_Tx rfl (by decide) mw_1591 d_Tx_factor_194)) (os_l (so_isub d_Tx_factor_197)))))))) (os_n (os_n (os_n (os_n (os_n (os_l (so_imul d_Tx_factor_198)) (os_l (so_iload_n d_Tx_factor_199 rfl))) (os_n (os_l (so_iadd d_Tx_factor_200)) (os_l (so_iaload d_Tx_factor_201)))) (os_n (os_n (os_l (so_bipush d_Tx_factor_202 (by decide))) (os_l (so_icne d_Tx_factor_204 (by decide)))) (os_n (os_l (so_aload_n d_Tx_factor_207 rfl)) (os_n (os_l (so_callV (iv := mi_Tx_bad) rfl rfl rfl mw_2255 mw_2257 sl_120 mw_19 mw_2258 ⟨by decide +kernel, by decide +kernel, by decide +kernel⟩ (by decide) d_Tx_factor_208)) (os_l (so_ireturn rfl d_Tx_factor_211)))))) (os_n (os_n (os_n (os_l (so_aload_n d_Tx_factor_212 rfl)) (os_l (so_get (C := R_Tx) (T := F_Tx) (N := 39) (j := 28) in_Tx rfl (by decide) mw_1613 d_Tx_factor_213))) (os_n (os_l (so_bipush d_Tx_factor_216 (by decide))) (os_l (so_iconst d_Tx_factor_218 (by decide))))) (os_n (os_n (os_l (so_aload_n d_Tx_factor_219 rfl)) (os_l (so_get (C := R_Tx) (T := F_Tx) (N := 39) (j := 12) in_Tx rfl (by decide) mw_1591 d_Tx_factor_220))) (os_n (os_l (so_isub d_Tx_factor_223)) (os_n (os_l (so_imul d_Tx_factor_224)) (os_l (so_iload_n d_Tx_factor_225 rfl))))))) (os_n (os_n (os_n (os_n (os_l (so_iadd d_Tx_factor_226)) (os_l (so_iaload d_Tx_factor_227))) (os_n (os_l (so_istore_n d_Tx_factor_228 rfl (by decide))) (os_l (so_aload_n d_Tx_factor_229 rfl)))) (os_n (os_n (os_l (so_callV (iv := mi_Tx_go) rfl rfl rfl mw_2182 mw_2184 sl_111 mw_19 mw_2185 ⟨by decide +kernel, by decide +kernel, by decide +kernel⟩ (by decide) d_Tx_factor_230)) (os_l (so_ifeq d_Tx_factor_233 (by decide)))) (os_n (os_l (so_aload_n d_Tx_factor_236 rfl)) (os_n (os_l (so_iconst d_Tx_factor_237 (by decide))) (os_l (so_iload_n d_Tx_factor_238 rfl)))))) (os_n (os_n (os_n (os_l (so_i2l d_Tx_factor_239)) (os_l (so_iload_n d_Tx_factor_240 rfl))) (os_n (os_l (so_iload_n d_Tx_factor_241 rfl)) (os_l (so_aload_n d_Tx_factor_242 rfl)))) (os_n (os_n (os_l (so_get (C := R_Tx) (T := F_Tx) (N := 39) (j := 35) in_Tx rfl (by decide) mw_1623 d_Tx_factor_243)) (os_l (so_callV (iv := mi_Tx_node0) rfl rfl rfl mw_2302 mw_2304 sl_131 mw_19 mw_2305 ⟨by decide +kernel, by decide +kernel, by decide +kernel⟩ (by decide) d_Tx_factor_246))) (os_n (os_l (so_goto d_Tx_factor_249 (by decide))) (os_n (os_l (so_iconst d_Tx_factor_252 (by decide))) (os_l (so_ireturn rfl d_Tx_factor_253))))))))))
abbrev t_Tx_numberNode_114 : List UInt8 := 172 :: []
abbrev t_Tx_numberNode_111 : List UInt8 := 182 :: 0 :: 208 :: t_Tx_numberNode_114
abbrev t_Tx_numberNode_108 : List UInt8 := 180 :: 0 :: 201 :: t_Tx_numberNode_111
abbrev t_Tx_numberNode_107 : List UInt8 := 42 :: t_Tx_numberNode_108
abbrev t_Tx_numberNode_105 : List UInt8 := 21 :: 4 :: t_Tx_numberNode_107
abbrev t_Tx_numberNode_104 : List UInt8 := 27 :: t_Tx_numberNode_105
abbrev t_Tx_numberNode_103 : List UInt8 := 32 :: t_Tx_numberNode_104
abbrev t_Tx_numberNode_102 : List UInt8 := 3 :: t_Tx_numberNode_103
abbrev t_Tx_numberNode_101 : List UInt8 := 42 :: t_Tx_numberNode_102
abbrev t_Tx_numberNode_100 : List UInt8 := 172 :: t_Tx_numberNode_101
abbrev t_Tx_numberNode_99 : List UInt8 := 2 :: t_Tx_numberNode_100
abbrev t_Tx_numberNode_96 : List UInt8 := 154 :: 0 :: 5 :: t_Tx_numberNode_99
abbrev t_Tx_numberNode_93 : List UInt8 := 182 :: 0 :: 182 :: t_Tx_numberNode_96
abbrev t_Tx_numberNode_92 : List UInt8 := 42 :: t_Tx_numberNode_93
abbrev t_Tx_numberNode_89 : List UInt8 := 158 :: 0 :: 12 :: t_Tx_numberNode_92
abbrev t_Tx_numberNode_87 : List UInt8 := 21 :: 4 :: t_Tx_numberNode_89
abbrev t_Tx_numberNode_86 : List UInt8 := 172 :: t_Tx_numberNode_87
abbrev t_Tx_numberNode_83 : List UInt8 := 182 :: 0 :: 192 :: t_Tx_numberNode_86
abbrev t_Tx_numberNode_82 : List UInt8 := 42 :: t_Tx_numberNode_83
abbrev t_Tx_numberNode_79 : List UInt8 := 158 :: 0 :: 8 :: t_Tx_numberNode_82
abbrev t_Tx_numberNode_78 : List UInt8 := 148 :: t_Tx_numberNode_79
abbrev t_Tx_numberNode_75 : List UInt8 := 20 :: 0 :: 250 :: t_Tx_numberNode_78
abbrev t_Tx_numberNode_74 : List UInt8 := 32 :: t_Tx_numberNode_75
abbrev t_Tx_numberNode_72 : List UInt8 := 54 :: 4 :: t_Tx_numberNode_74
abbrev t_Tx_numberNode_71 : List UInt8 := 6 :: t_Tx_numberNode_72
abbrev t_Tx_numberNode_70 : List UInt8 := 65 :: t_Tx_numberNode_71
abbrev t_Tx_numberNode_69 : List UInt8 := 105 :: t_Tx_numberNode_70
abbrev t_Tx_numberNode_66 : List UInt8 := 20 :: 0 :: 248 :: t_Tx_numberNode_69
abbrev t_Tx_numberNode_63 : List UInt8 := 167 :: 0 :: 6 :: t_Tx_numberNode_66
abbrev t_Tx_numberNode_60 : List UInt8 := 20 :: 0 :: 246 :: t_Tx_numberNode_63
abbrev t_Tx_numberNode_57 : List UInt8 := 153 :: 0 :: 9 :: t_Tx_numberNode_60
abbrev t_Tx_numberNode_54 : List UInt8 := 182 :: 0 :: 237 :: t_Tx_numberNode_57
abbrev t_Tx_numberNode_52 : List UInt8 := 16 :: 45 :: t_Tx_numberNode_54
abbrev t_Tx_numberNode_51 : List UInt8 := 42 :: t_Tx_numberNode_52
abbrev t_Tx_numberNode_50 : List UInt8 := 32 :: t_Tx_numberNode_51
abbrev t_Tx_numberNode_47 : List UInt8 := 153 :: 0 :: 40 :: t_Tx_numberNode_50
abbrev t_Tx_numberNode_45 : List UInt8 := 21 :: 5 :: t_Tx_numberNode_47
abbrev t_Tx_numberNode_43 : List UInt8 := 54 :: 5 :: t_Tx_numberNode_45
abbrev t_Tx_numberNode_42 : List UInt8 := 3 :: t_Tx_numberNode_43
abbrev t_Tx_numberNode_39 : List UInt8 := 167 :: 0 :: 4 :: t_Tx_numberNode_42
abbrev t_Tx_numberNode_38 : List UInt8 := 4 :: t_Tx_numberNode_39
abbrev t_Tx_numberNode_35 : List UInt8 := 153 :: 0 :: 7 :: t_Tx_numberNode_38
abbrev t_Tx_numberNode_32 : List UInt8 := 182 :: 0 :: 237 :: t_Tx_numberNode_35
abbrev t_Tx_numberNode_30 : List UInt8 := 16 :: 46 :: t_Tx_numberNode_32
abbrev t_Tx_numberNode_29 : List UInt8 := 42 :: t_Tx_numberNode_30
abbrev t_Tx_numberNode_26 : List UInt8 := 154 :: 0 :: 12 :: t_Tx_numberNode_29
abbrev t_Tx_numberNode_23 : List UInt8 := 182 :: 0 :: 237 :: t_Tx_numberNode_26
abbrev t_Tx_numberNode_21 : List UInt8 := 16 :: 45 :: t_Tx_numberNode_23
abbrev t_Tx_numberNode_20 : List UInt8 := 42 :: t_Tx_numberNode_21
abbrev t_Tx_numberNode_18 : List UInt8 := 54 :: 4 :: t_Tx_numberNode_20
abbrev t_Tx_numberNode_15 : List UInt8 := 182 :: 0 :: 243 :: t_Tx_numberNode_18
abbrev t_Tx_numberNode_14 : List UInt8 := 42 :: t_Tx_numberNode_15
abbrev t_Tx_numberNode_13 : List UInt8 := 172 :: t_Tx_numberNode_14
abbrev t_Tx_numberNode_12 : List UInt8 := 2 :: t_Tx_numberNode_13
abbrev t_Tx_numberNode_9 : List UInt8 := 154 :: 0 :: 5 :: t_Tx_numberNode_12
abbrev t_Tx_numberNode_6 : List UInt8 := 182 :: 0 :: 182 :: t_Tx_numberNode_9
abbrev t_Tx_numberNode_5 : List UInt8 := 42 :: t_Tx_numberNode_6
abbrev t_Tx_numberNode_4 : List UInt8 := 65 :: t_Tx_numberNode_5
abbrev t_Tx_numberNode_1 : List UInt8 := 180 :: 0 :: 166 :: t_Tx_numberNode_4
abbrev t_Tx_numberNode_0 : List UInt8 := 42 :: t_Tx_numberNode_1
theorem a_Tx_numberNode_0 : dk_at b_Tx_numberNode 0 t_Tx_numberNode_0 := dk_start (by decide +kernel)
theorem a_Tx_numberNode_1 : dk_at b_Tx_numberNode 1 t_Tx_numberNode_1 := dk_go 1 a_Tx_numberNode_0 rfl
theorem a_Tx_numberNode_4 : dk_at b_Tx_numberNode 4 t_Tx_numberNode_4 := dk_go 3 a_Tx_numberNode_1 rfl
theorem a_Tx_numberNode_5 : dk_at b_Tx_numberNode 5 t_Tx_numberNode_5 := dk_go 1 a_Tx_numberNode_4 rfl
theorem a_Tx_numberNode_6 : dk_at b_Tx_numberNode 6 t_Tx_numberNode_6 := dk_go 1 a_Tx_numberNode_5 rfl
theorem a_Tx_numberNode_9 : dk_at b_Tx_numberNode 9 t_Tx_numberNode_9 := dk_go 3 a_Tx_numberNode_6 rfl
theorem a_Tx_numberNode_12 : dk_at b_Tx_numberNode 12 t_Tx_numberNode_12 := dk_go 3 a_Tx_numberNode_9 rfl
theorem a_Tx_numberNode_13 : dk_at b_Tx_numberNode 13 t_Tx_numberNode_13 := dk_go 1 a_Tx_numberNode_12 rfl
theorem a_Tx_numberNode_14 : dk_at b_Tx_numberNode 14 t_Tx_numberNode_14 := dk_go 1 a_Tx_numberNode_13 rfl
theorem a_Tx_numberNode_15 : dk_at b_Tx_numberNode 15 t_Tx_numberNode_15 := dk_go 1 a_Tx_numberNode_14 rfl
theorem a_Tx_numberNode_18 : dk_at b_Tx_numberNode 18 t_Tx_numberNode_18 := dk_go 3 a_Tx_numberNode_15 rfl
theorem a_Tx_numberNode_20 : dk_at b_Tx_numberNode 20 t_Tx_numberNode_20 := dk_go 2 a_Tx_numberNode_18 rfl
theorem a_Tx_numberNode_21 : dk_at b_Tx_numberNode 21 t_Tx_numberNode_21 := dk_go 1 a_Tx_numberNode_20 rfl
theorem a_Tx_numberNode_23 : dk_at b_Tx_numberNode 23 t_Tx_numberNode_23 := dk_go 2 a_Tx_numberNode_21 rfl
theorem a_Tx_numberNode_26 : dk_at b_Tx_numberNode 26 t_Tx_numberNode_26 := dk_go 3 a_Tx_numberNode_23 rfl
theorem a_Tx_numberNode_29 : dk_at b_Tx_numberNode 29 t_Tx_numberNode_29 := dk_go 3 a_Tx_numberNode_26 rfl
theorem a_Tx_numberNode_30 : dk_at b_Tx_numberNode 30 t_Tx_numberNode_30 := dk_go 1 a_Tx_numberNode_29 rfl
theorem a_Tx_numberNode_32 : dk_at b_Tx_numberNode 32 t_Tx_numberNode_32 := dk_go 2 a_Tx_numberNode_30 rfl
theorem a_Tx_numberNode_35 : dk_at b_Tx_numberNode 35 t_Tx_numberNode_35 := dk_go 3 a_Tx_numberNode_32 rfl
theorem a_Tx_numberNode_38 : dk_at b_Tx_numberNode 38 t_Tx_numberNode_38 := dk_go 3 a_Tx_numberNode_35 rfl
theorem a_Tx_numberNode_39 : dk_at b_Tx_numberNode 39 t_Tx_numberNode_39 := dk_go 1 a_Tx_numberNode_38 rfl
theorem a_Tx_numberNode_42 : dk_at b_Tx_numberNode 42 t_Tx_numberNode_42 := dk_go 3 a_Tx_numberNode_39 rfl
theorem a_Tx_numberNode_43 : dk_at b_Tx_numberNode 43 t_Tx_numberNode_43 := dk_go 1 a_Tx_numberNode_42 rfl
theorem a_Tx_numberNode_45 : dk_at b_Tx_numberNode 45 t_Tx_numberNode_45 := dk_go 2 a_Tx_numberNode_43 rfl
theorem a_Tx_numberNode_47 : dk_at b_Tx_numberNode 47 t_Tx_numberNode_47 := dk_go 2 a_Tx_numberNode_45 rfl
theorem a_Tx_numberNode_50 : dk_at b_Tx_numberNode 50 t_Tx_numberNode_50 := dk_go 3 a_Tx_numberNode_47 rfl
theorem a_Tx_numberNode_51 : dk_at b_Tx_numberNode 51 t_Tx_numberNode_51 := dk_go 1 a_Tx_numberNode_50 rfl
theorem a_Tx_numberNode_52 : dk_at b_Tx_numberNode 52 t_Tx_numberNode_52 := dk_go 1 a_Tx_numberNode_51 rfl
theorem a_Tx_numberNode_54 : dk_at b_Tx_numberNode 54 t_Tx_numberNode_54 := dk_go 2 a_Tx_numberNode_52 rfl
theorem a_Tx_numberNode_57 : dk_at b_Tx_numberNode 57 t_Tx_numberNode_57 := dk_go 3 a_Tx_numberNode_54 rfl
theorem a_Tx_numberNode_60 : dk_at b_Tx_numberNode 60 t_Tx_numberNode_60 := dk_go 3 a_Tx_numberNode_57 rfl
theorem a_Tx_numberNode_63 : dk_at b_Tx_numberNode 63 t_Tx_numberNode_63 := dk_go 3 a_Tx_numberNode_60 rfl
theorem a_Tx_numberNode_66 : dk_at b_Tx_numberNode 66 t_Tx_numberNode_66 := dk_go 3 a_Tx_numberNode_63 rfl
theorem a_Tx_numberNode_69 : dk_at b_Tx_numberNode 69 t_Tx_numberNode_69 := dk_go 3 a_Tx_numberNode_66 rfl
theorem a_Tx_numberNode_70 : dk_at b_Tx_numberNode 70 t_Tx_numberNode_70 := dk_go 1 a_Tx_numberNode_69 rfl
theorem a_Tx_numberNode_71 : dk_at b_Tx_numberNode 71 t_Tx_numberNode_71 := dk_go 1 a_Tx_numberNode_70 rfl
theorem a_Tx_numberNode_72 : dk_at b_Tx_numberNode 72 t_Tx_numberNode_72 := dk_go 1 a_Tx_numberNode_71 rfl
theorem a_Tx_numberNode_74 : dk_at b_Tx_numberNode 74 t_Tx_numberNode_74 := dk_go 2 a_Tx_numberNode_72 rfl
theorem a_Tx_numberNode_75 : dk_at b_Tx_numberNode 75 t_Tx_numberNode_75 := dk_go 1 a_Tx_numberNode_74 rfl
theorem a_Tx_numberNode_78 : dk_at b_Tx_numberNode 78 t_Tx_numberNode_78 := dk_go 3 a_Tx_numberNode_75 rfl
theorem a_Tx_numberNode_79 : dk_at b_Tx_numberNode 79 t_Tx_numberNode_79 := dk_go 1 a_Tx_numberNode_78 rfl
theorem a_Tx_numberNode_82 : dk_at b_Tx_numberNode 82 t_Tx_numberNode_82 := dk_go 3 a_Tx_numberNode_79 rfl
theorem a_Tx_numberNode_83 : dk_at b_Tx_numberNode 83 t_Tx_numberNode_83 := dk_go 1 a_Tx_numberNode_82 rfl
theorem a_Tx_numberNode_86 : dk_at b_Tx_numberNode 86 t_Tx_numberNode_86 := dk_go 3 a_Tx_numberNode_83 rfl
theorem a_Tx_numberNode_87 : dk_at b_Tx_numberNode 87 t_Tx_numberNode_87 := dk_go 1 a_Tx_numberNode_86 rfl
theorem a_Tx_numberNode_89 : dk_at b_Tx_numberNode 89 t_Tx_numberNode_89 := dk_go 2 a_Tx_numberNode_87 rfl
theorem a_Tx_numberNode_92 : dk_at b_Tx_numberNode 92 t_Tx_numberNode_92 := dk_go 3 a_Tx_numberNode_89 rfl
theorem a_Tx_numberNode_93 : dk_at b_Tx_numberNode 93 t_Tx_numberNode_93 := dk_go 1 a_Tx_numberNode_92 rfl
theorem a_Tx_numberNode_96 : dk_at b_Tx_numberNode 96 t_Tx_numberNode_96 := dk_go 3 a_Tx_numberNode_93 rfl
theorem a_Tx_numberNode_99 : dk_at b_Tx_numberNode 99 t_Tx_numberNode_99 := dk_go 3 a_Tx_numberNode_96 rfl
theorem a_Tx_numberNode_100 : dk_at b_Tx_numberNode 100 t_Tx_numberNode_100 := dk_go 1 a_Tx_numberNode_99 rfl
theorem a_Tx_numberNode_101 : dk_at b_Tx_numberNode 101 t_Tx_numberNode_101 := dk_go 1 a_Tx_numberNode_100 rfl
theorem a_Tx_numberNode_102 : dk_at b_Tx_numberNode 102 t_Tx_numberNode_102 := dk_go 1 a_Tx_numberNode_101 rfl
theorem a_Tx_numberNode_103 : dk_at b_Tx_numberNode 103 t_Tx_numberNode_103 := dk_go 1 a_Tx_numberNode_102 rfl
theorem a_Tx_numberNode_104 : dk_at b_Tx_numberNode 104 t_Tx_numberNode_104 := dk_go 1 a_Tx_numberNode_103 rfl
theorem a_Tx_numberNode_105 : dk_at b_Tx_numberNode 105 t_Tx_numberNode_105 := dk_go 1 a_Tx_numberNode_104 rfl
theorem a_Tx_numberNode_107 : dk_at b_Tx_numberNode 107 t_Tx_numberNode_107 := dk_go 2 a_Tx_numberNode_105 rfl
theorem a_Tx_numberNode_108 : dk_at b_Tx_numberNode 108 t_Tx_numberNode_108 := dk_go 1 a_Tx_numberNode_107 rfl
theorem a_Tx_numberNode_111 : dk_at b_Tx_numberNode 111 t_Tx_numberNode_111 := dk_go 3 a_Tx_numberNode_108 rfl
theorem a_Tx_numberNode_114 : dk_at b_Tx_numberNode 114 t_Tx_numberNode_114 := dk_go 3 a_Tx_numberNode_111 rfl
theorem d_Tx_numberNode_0 : decode b_Tx_numberNode 0 = .ok (.aload_n 0, 1) := dk_0 a_Tx_numberNode_0 (dko_42 _)
theorem d_Tx_numberNode_1 : decode b_Tx_numberNode 1 = .ok (.getfield 166, 3) := dk_U2 a_Tx_numberNode_1 (dko_180 _) rfl
theorem d_Tx_numberNode_4 : decode b_Tx_numberNode 4 = .ok (.lstore_n 2, 1) := dk_0 a_Tx_numberNode_4 (dko_65 _)
theorem d_Tx_numberNode_5 : decode b_Tx_numberNode 5 = .ok (.aload_n 0, 1) := dk_0 a_Tx_numberNode_5 (dko_42 _)
theorem d_Tx_numberNode_6 : decode b_Tx_numberNode 6 = .ok (.invokevirtual 182, 3) := dk_U2 a_Tx_numberNode_6 (dko_182 _) rfl
theorem d_Tx_numberNode_9 : decode b_Tx_numberNode 9 = .ok (.ifCond .ne 5, 3) := dk_S2 a_Tx_numberNode_9 (dko_154 _) (by decide +kernel)
theorem d_Tx_numberNode_12 : decode b_Tx_numberNode 12 = .ok (.iconst (-1), 1) := dk_0 a_Tx_numberNode_12 (dko_2 _)
theorem d_Tx_numberNode_13 : decode b_Tx_numberNode 13 = .ok (.ireturn, 1) := dk_0 a_Tx_numberNode_13 (dko_172 _)
theorem d_Tx_numberNode_14 : decode b_Tx_numberNode 14 = .ok (.aload_n 0, 1) := dk_0 a_Tx_numberNode_14 (dko_42 _)
theorem d_Tx_numberNode_15 : decode b_Tx_numberNode 15 = .ok (.invokevirtual 243, 3) := dk_U2 a_Tx_numberNode_15 (dko_182 _) rfl
theorem d_Tx_numberNode_18 : decode b_Tx_numberNode 18 = .ok (.istore 4, 2) := dk_U1 a_Tx_numberNode_18 (dko_54 _) rfl
theorem d_Tx_numberNode_20 : decode b_Tx_numberNode 20 = .ok (.aload_n 0, 1) := dk_0 a_Tx_numberNode_20 (dko_42 _)
theorem d_Tx_numberNode_21 : decode b_Tx_numberNode 21 = .ok (.bipush 45, 2) := dk_S1 a_Tx_numberNode_21 (dko_16 _) (by decide +kernel)
theorem d_Tx_numberNode_23 : decode b_Tx_numberNode 23 = .ok (.invokevirtual 237, 3) := dk_U2 a_Tx_numberNode_23 (dko_182 _) rfl
theorem d_Tx_numberNode_26 : decode b_Tx_numberNode 26 = .ok (.ifCond .ne 12, 3) := dk_S2 a_Tx_numberNode_26 (dko_154 _) (by decide +kernel)
theorem d_Tx_numberNode_29 : decode b_Tx_numberNode 29 = .ok (.aload_n 0, 1) := dk_0 a_Tx_numberNode_29 (dko_42 _)
theorem d_Tx_numberNode_30 : decode b_Tx_numberNode 30 = .ok (.bipush 46, 2) := dk_S1 a_Tx_numberNode_30 (dko_16 _) (by decide +kernel)
theorem d_Tx_numberNode_32 : decode b_Tx_numberNode 32 = .ok (.invokevirtual 237, 3) := dk_U2 a_Tx_numberNode_32 (dko_182 _) rfl
theorem d_Tx_numberNode_35 : decode b_Tx_numberNode 35 = .ok (.ifCond .eq 7, 3) := dk_S2 a_Tx_numberNode_35 (dko_153 _) (by decide +kernel)
theorem d_Tx_numberNode_38 : decode b_Tx_numberNode 38 = .ok (.iconst 1, 1) := dk_0 a_Tx_numberNode_38 (dko_4 _)
theorem d_Tx_numberNode_39 : decode b_Tx_numberNode 39 = .ok (.goto 4, 3) := dk_S2 a_Tx_numberNode_39 (dko_167 _) (by decide +kernel)
theorem d_Tx_numberNode_42 : decode b_Tx_numberNode 42 = .ok (.iconst 0, 1) := dk_0 a_Tx_numberNode_42 (dko_3 _)
theorem d_Tx_numberNode_43 : decode b_Tx_numberNode 43 = .ok (.istore 5, 2) := dk_U1 a_Tx_numberNode_43 (dko_54 _) rfl
theorem d_Tx_numberNode_45 : decode b_Tx_numberNode 45 = .ok (.iload 5, 2) := dk_U1 a_Tx_numberNode_45 (dko_21 _) rfl
theorem d_Tx_numberNode_47 : decode b_Tx_numberNode 47 = .ok (.ifCond .eq 40, 3) := dk_S2 a_Tx_numberNode_47 (dko_153 _) (by decide +kernel)
theorem d_Tx_numberNode_50 : decode b_Tx_numberNode 50 = .ok (.lload_n 2, 1) := dk_0 a_Tx_numberNode_50 (dko_32 _)
theorem d_Tx_numberNode_51 : decode b_Tx_numberNode 51 = .ok (.aload_n 0, 1) := dk_0 a_Tx_numberNode_51 (dko_42 _)
theorem d_Tx_numberNode_52 : decode b_Tx_numberNode 52 = .ok (.bipush 45, 2) := dk_S1 a_Tx_numberNode_52 (dko_16 _) (by decide +kernel)
theorem d_Tx_numberNode_54 : decode b_Tx_numberNode 54 = .ok (.invokevirtual 237, 3) := dk_U2 a_Tx_numberNode_54 (dko_182 _) rfl
theorem d_Tx_numberNode_57 : decode b_Tx_numberNode 57 = .ok (.ifCond .eq 9, 3) := dk_S2 a_Tx_numberNode_57 (dko_153 _) (by decide +kernel)
theorem d_Tx_numberNode_60 : decode b_Tx_numberNode 60 = .ok (.ldc2_w 246, 3) := dk_U2 a_Tx_numberNode_60 (dko_20 _) rfl
theorem d_Tx_numberNode_63 : decode b_Tx_numberNode 63 = .ok (.goto 6, 3) := dk_S2 a_Tx_numberNode_63 (dko_167 _) (by decide +kernel)
theorem d_Tx_numberNode_66 : decode b_Tx_numberNode 66 = .ok (.ldc2_w 248, 3) := dk_U2 a_Tx_numberNode_66 (dko_20 _) rfl
theorem d_Tx_numberNode_69 : decode b_Tx_numberNode 69 = .ok (.lmul, 1) := dk_0 a_Tx_numberNode_69 (dko_105 _)
theorem d_Tx_numberNode_70 : decode b_Tx_numberNode 70 = .ok (.lstore_n 2, 1) := dk_0 a_Tx_numberNode_70 (dko_65 _)
theorem d_Tx_numberNode_71 : decode b_Tx_numberNode 71 = .ok (.iconst 3, 1) := dk_0 a_Tx_numberNode_71 (dko_6 _)
theorem d_Tx_numberNode_72 : decode b_Tx_numberNode 72 = .ok (.istore 4, 2) := dk_U1 a_Tx_numberNode_72 (dko_54 _) rfl
theorem d_Tx_numberNode_74 : decode b_Tx_numberNode 74 = .ok (.lload_n 2, 1) := dk_0 a_Tx_numberNode_74 (dko_32 _)
theorem d_Tx_numberNode_75 : decode b_Tx_numberNode 75 = .ok (.ldc2_w 250, 3) := dk_U2 a_Tx_numberNode_75 (dko_20 _) rfl
theorem d_Tx_numberNode_78 : decode b_Tx_numberNode 78 = .ok (.lcmp, 1) := dk_0 a_Tx_numberNode_78 (dko_148 _)
theorem d_Tx_numberNode_79 : decode b_Tx_numberNode 79 = .ok (.ifCond .le 8, 3) := dk_S2 a_Tx_numberNode_79 (dko_158 _) (by decide +kernel)
theorem d_Tx_numberNode_82 : decode b_Tx_numberNode 82 = .ok (.aload_n 0, 1) := dk_0 a_Tx_numberNode_82 (dko_42 _)
theorem d_Tx_numberNode_83 : decode b_Tx_numberNode 83 = .ok (.invokevirtual 192, 3) := dk_U2 a_Tx_numberNode_83 (dko_182 _) rfl
theorem d_Tx_numberNode_86 : decode b_Tx_numberNode 86 = .ok (.ireturn, 1) := dk_0 a_Tx_numberNode_86 (dko_172 _)
theorem d_Tx_numberNode_87 : decode b_Tx_numberNode 87 = .ok (.iload 4, 2) := dk_U1 a_Tx_numberNode_87 (dko_21 _) rfl
theorem d_Tx_numberNode_89 : decode b_Tx_numberNode 89 = .ok (.ifCond .le 12, 3) := dk_S2 a_Tx_numberNode_89 (dko_158 _) (by decide +kernel)
theorem d_Tx_numberNode_92 : decode b_Tx_numberNode 92 = .ok (.aload_n 0, 1) := dk_0 a_Tx_numberNode_92 (dko_42 _)
theorem d_Tx_numberNode_93 : decode b_Tx_numberNode 93 = .ok (.invokevirtual 182, 3) := dk_U2 a_Tx_numberNode_93 (dko_182 _) rfl
theorem d_Tx_numberNode_96 : decode b_Tx_numberNode 96 = .ok (.ifCond .ne 5, 3) := dk_S2 a_Tx_numberNode_96 (dko_154 _) (by decide +kernel)
theorem d_Tx_numberNode_99 : decode b_Tx_numberNode 99 = .ok (.iconst (-1), 1) := dk_0 a_Tx_numberNode_99 (dko_2 _)
theorem d_Tx_numberNode_100 : decode b_Tx_numberNode 100 = .ok (.ireturn, 1) := dk_0 a_Tx_numberNode_100 (dko_172 _)
theorem d_Tx_numberNode_101 : decode b_Tx_numberNode 101 = .ok (.aload_n 0, 1) := dk_0 a_Tx_numberNode_101 (dko_42 _)
theorem d_Tx_numberNode_102 : decode b_Tx_numberNode 102 = .ok (.iconst 0, 1) := dk_0 a_Tx_numberNode_102 (dko_3 _)
theorem d_Tx_numberNode_103 : decode b_Tx_numberNode 103 = .ok (.lload_n 2, 1) := dk_0 a_Tx_numberNode_103 (dko_32 _)
theorem d_Tx_numberNode_104 : decode b_Tx_numberNode 104 = .ok (.iload_n 1, 1) := dk_0 a_Tx_numberNode_104 (dko_27 _)
theorem d_Tx_numberNode_105 : decode b_Tx_numberNode 105 = .ok (.iload 4, 2) := dk_U1 a_Tx_numberNode_105 (dko_21 _) rfl
theorem d_Tx_numberNode_107 : decode b_Tx_numberNode 107 = .ok (.aload_n 0, 1) := dk_0 a_Tx_numberNode_107 (dko_42 _)
theorem d_Tx_numberNode_108 : decode b_Tx_numberNode 108 = .ok (.getfield 201, 3) := dk_U2 a_Tx_numberNode_108 (dko_180 _) rfl
theorem d_Tx_numberNode_111 : decode b_Tx_numberNode 111 = .ok (.invokevirtual 208, 3) := dk_U2 a_Tx_numberNode_111 (dko_182 _) rfl
theorem d_Tx_numberNode_114 : decode b_Tx_numberNode 114 = .ok (.ireturn, 1) := dk_0 a_Tx_numberNode_114 (dko_172 _)
set_option maxHeartbeats 4000000 in
set_option maxRecDepth 100000 in
theorem ok_Tx_numberNode (pc : Nat) : OpS mt mi_Tx_numberNode pc (cs_Tx_numberNode pc) := (os_n (os_n (os_n (os_n (os_n (os_l (so_aload_n d_Tx_numberNode_0 rfl)) (os_n (os_l (so_get (C := R_Tx) (T := F_Tx) (N := 39) (j := 8) in_Tx rfl (by decide) mw_1587 d_Tx_numberNode_1)) (os_l (so_lstore_n d_Tx_numberNode_4 rfl (by decide))))) (os_n (os_n (os_l (so_aload_n d_Tx_numberNode_5 rfl)) (os_l (so_callV (iv := mi_Tx_go) rfl rfl rfl mw_2182 mw_2184 sl_111 mw_19 mw_2185 ⟨by decide +kernel, by decide +kernel, by decide +kernel⟩ (by decide) d_Tx_numberNode_6))) (os_n (os_l (so_ifne d_Tx_numberNode_9 (by decide))) (os_l (so_iconst d_Tx_numberNode_12 (by decide)))))) (os_n (os_n (os_n (os_l (so_ireturn rfl d_Tx_numberNode_13)) (os_l (so_aload_n d_Tx_numberNode_14 rfl))) (os_n (os_l (so_callV (iv := mi_Tx_unitWord) rfl rfl rfl mw_2259 mw_2261 sl_121 mw_19 mw_2262 ⟨by decide +kernel, by decide +kernel, by decide +kernel⟩ (by decide) d_Tx_numberNode_15)) (os_l (so_istore d_Tx_numberNode_18 (by decide))))) (os_n (os_n (os_l (so_aload_n d_Tx_numberNode_20 rfl)) (os_l (so_bipush d_Tx_numberNode_21 (by decide)))) (os_n (os_l (so_callV (iv := mi_Tx_isWord) rfl rfl rfl mw_2239 mw_2241 sl_116 mw_19 mw_2242 ⟨by decide +kernel, by decide +kernel, by decide +kernel⟩ (by decide) d_Tx_numberNode_23)) (os_l (so_ifne d_Tx_numberNode_26 (by decide))))))) (os_n (os_n (os_n (os_l (so_aload_n d_Tx_numberNode_29 rfl)) (os_n (os_l (so_bipush d_Tx_numberNode_30 (by decide))) (os_l (so_callV (iv := mi_Tx_isWord) rfl rfl rfl mw_2239 mw_2241 sl_116 mw_19 mw_2242 ⟨by decide +kernel, by decide +kernel, by decide +kernel⟩ (by decide) d_Tx_numberNode_32)))) (os_n (os_n (os_l (so_ifeq d_Tx_numberNode_35 (by decide))) (os_l (so_iconst d_Tx_numberNode_38 (by decide)))) (os_n (os_l (so_goto d_Tx_numberNode_39 (by decide))) (os_l (so_iconst d_Tx_numberNode_42 (by decide)))))) (os_n (os_n (os_n (os_l (so_istore d_Tx_numberNode_43 (by decide))) (os_l (so_iload d_Tx_numberNode_45))) (os_n (os_l (so_ifeq d_Tx_numberNode_47 (by decide))) (os_l (so_lload_n d_Tx_numberNode_50 rfl)))) (os_n (os_n (os_l (so_aload_n d_Tx_numberNode_51 rfl)) (os_l (so_bipush d_Tx_numberNode_52 (by decide)))) (os_n (os_l (so_callV (iv := mi_Tx_isWord) rfl rfl rfl mw_2239 mw_2241 sl_116 mw_19 mw_2242 ⟨by decide +kernel, by decide +kernel, by decide +kernel⟩ (by decide) d_Tx_numberNode_54)) (os_l (so_ifeq d_Tx_numberNode_57 (by decide)))))))) (os_n (os_n (os_n (os_n (os_l (so_ldc2 mw_2299 d_Tx_numberNode_60)) (os_n (os_l (so_goto d_Tx_numberNode_63 (by decide))) (os_l (so_ldc2 mw_2300 d_Tx_numberNode_66)))) (os_n (os_n (os_l (so_lmul d_Tx_numberNode_69)) (os_l (so_lstore_n d_Tx_numberNode_70 rfl (by decide)))) (os_n (os_l (so_iconst d_Tx_numberNode_71 (by decide))) (os_l (so_istore d_Tx_numberNode_72 (by decide)))))) (os_n (os_n (os_n (os_l (so_lload_n d_Tx_numberNode_74 rfl)) (os_l (so_ldc2 mw_2301 d_Tx_numberNode_75))) (os_n (os_l (so_lcmp d_Tx_numberNode_78)) (os_l (so_ifle d_Tx_numberNode_79 (by decide))))) (os_n (os_n (os_l (so_aload_n d_Tx_numberNode_82 rfl)) (os_l (so_callV (iv := mi_Tx_bad) rfl rfl rfl mw_2255 mw_2257 sl_120 mw_19 mw_2258 ⟨by decide +kernel, by decide +kernel, by decide +kernel⟩ (by decide) d_Tx_numberNode_83))) (os_n (os_l (so_ireturn rfl d_Tx_numberNode_86)) (os_l (so_iload d_Tx_numberNode_87)))))) (os_n (os_n (os_n (os_l (so_ifle d_Tx_numberNode_89 (by decide))) (os_n (os_l (so_aload_n d_Tx_numberNode_92 rfl)) (os_l (so_callV (iv := mi_Tx_go) rfl rfl rfl mw_2182 mw_2184 sl_111 mw_19 mw_2185 ⟨by decide +kernel, by decide +kernel, by decide +kernel⟩ (by decide) d_Tx_numberNode_93)))) (os_n (os_n (os_l (so_ifne d_Tx_numberNode_96 (by decide))) (os_l (so_iconst d_Tx_numberNode_99 (by decide)))) (os_n (os_l (so_ireturn rfl d_Tx_numberNode_100)) (os_l (so_aload_n d_Tx_numberNode_101 rfl))))) (os_n (os_n (os_n (os_l (so_iconst d_Tx_numberNode_102 (by decide))) (os_l (so_lload_n d_Tx_numberNode_103 rfl))) (os_n (os_l (so_iload_n d_Tx_numberNode_104 rfl)) (os_l (so_iload d_Tx_numberNode_105)))) (os_n (os_n (os_l (so_aload_n d_Tx_numberNode_107 rfl)) (os_l (so_get (C := R_Tx) (T := F_Tx) (N := 39) (j := 35) in_Tx rfl (by decide) mw_1623 d_Tx_numberNode_108))) (os_n (os_l (so_callV (iv := mi_Tx_node0) rfl rfl rfl mw_2302 mw_2304 sl_131 mw_19 mw_2305 ⟨by decide +kernel, by decide +kernel, by decide +kernel⟩ (by decide) d_Tx_numberNode_111)) (os_l (so_ireturn rfl d_Tx_numberNode_114))))))))
abbrev t_Tx_test_133 : List UInt8 := 172 :: []
abbrev t_Tx_test_130 : List UInt8 := 182 :: 0 :: 218 :: t_Tx_test_133
abbrev t_Tx_test_129 : List UInt8 := 2 :: t_Tx_test_130
abbrev t_Tx_test_127 : List UInt8 := 21 :: 4 :: t_Tx_test_129
abbrev t_Tx_test_126 : List UInt8 := 27 :: t_Tx_test_127
abbrev t_Tx_test_125 : List UInt8 := 28 :: t_Tx_test_126
abbrev t_Tx_test_124 : List UInt8 := 42 :: t_Tx_test_125
abbrev t_Tx_test_123 : List UInt8 := 172 :: t_Tx_test_124
abbrev t_Tx_test_122 : List UInt8 := 2 :: t_Tx_test_123
abbrev t_Tx_test_119 : List UInt8 := 181 :: 0 :: 159 :: t_Tx_test_122
abbrev t_Tx_test_118 : List UInt8 := 29 :: t_Tx_test_119
abbrev t_Tx_test_117 : List UInt8 := 42 :: t_Tx_test_118
abbrev t_Tx_test_114 : List UInt8 := 159 :: 0 :: 10 :: t_Tx_test_117
abbrev t_Tx_test_111 : List UInt8 := 182 :: 0 :: 215 :: t_Tx_test_114
abbrev t_Tx_test_109 : List UInt8 := 21 :: 4 :: t_Tx_test_111
abbrev t_Tx_test_108 : List UInt8 := 42 :: t_Tx_test_109
abbrev t_Tx_test_105 : List UInt8 := 182 :: 0 :: 215 :: t_Tx_test_108
abbrev t_Tx_test_104 : List UInt8 := 27 :: t_Tx_test_105
abbrev t_Tx_test_103 : List UInt8 := 42 :: t_Tx_test_104
abbrev t_Tx_test_102 : List UInt8 := 172 :: t_Tx_test_103
abbrev t_Tx_test_101 : List UInt8 := 2 :: t_Tx_test_102
abbrev t_Tx_test_98 : List UInt8 := 156 :: 0 :: 5 :: t_Tx_test_101
abbrev t_Tx_test_96 : List UInt8 := 21 :: 4 :: t_Tx_test_98
abbrev t_Tx_test_94 : List UInt8 := 54 :: 4 :: t_Tx_test_96
abbrev t_Tx_test_93 : List UInt8 := 2 :: t_Tx_test_94
abbrev t_Tx_test_90 : List UInt8 := 167 :: 0 :: 4 :: t_Tx_test_93
abbrev t_Tx_test_87 : List UInt8 := 182 :: 0 :: 231 :: t_Tx_test_90
abbrev t_Tx_test_86 : List UInt8 := 42 :: t_Tx_test_87
abbrev t_Tx_test_83 : List UInt8 := 153 :: 0 :: 10 :: t_Tx_test_86
abbrev t_Tx_test_80 : List UInt8 := 182 :: 0 :: 182 :: t_Tx_test_83
abbrev t_Tx_test_79 : List UInt8 := 42 :: t_Tx_test_80
abbrev t_Tx_test_78 : List UInt8 := 62 :: t_Tx_test_79
abbrev t_Tx_test_75 : List UInt8 := 180 :: 0 :: 69 :: t_Tx_test_78
abbrev t_Tx_test_74 : List UInt8 := 42 :: t_Tx_test_75
abbrev t_Tx_test_73 : List UInt8 := 61 :: t_Tx_test_74
abbrev t_Tx_test_71 : List UInt8 := 16 :: 9 :: t_Tx_test_73
abbrev t_Tx_test_68 : List UInt8 := 167 :: 0 :: 5 :: t_Tx_test_71
abbrev t_Tx_test_66 : List UInt8 := 16 :: 8 :: t_Tx_test_68
abbrev t_Tx_test_63 : List UInt8 := 160 :: 0 :: 8 :: t_Tx_test_66
abbrev t_Tx_test_61 : List UInt8 := 16 :: 61 :: t_Tx_test_63
abbrev t_Tx_test_58 : List UInt8 := 180 :: 0 :: 146 :: t_Tx_test_61
abbrev t_Tx_test_57 : List UInt8 := 42 :: t_Tx_test_58
abbrev t_Tx_test_54 : List UInt8 := 167 :: 0 :: 19 :: t_Tx_test_57
abbrev t_Tx_test_52 : List UInt8 := 16 :: 7 :: t_Tx_test_54
abbrev t_Tx_test_49 : List UInt8 := 160 :: 0 :: 8 :: t_Tx_test_52
abbrev t_Tx_test_47 : List UInt8 := 16 :: 60 :: t_Tx_test_49
abbrev t_Tx_test_44 : List UInt8 := 180 :: 0 :: 146 :: t_Tx_test_47
abbrev t_Tx_test_43 : List UInt8 := 42 :: t_Tx_test_44
abbrev t_Tx_test_42 : List UInt8 := 172 :: t_Tx_test_43
abbrev t_Tx_test_39 : List UInt8 := 182 :: 0 :: 192 :: t_Tx_test_42
abbrev t_Tx_test_38 : List UInt8 := 42 :: t_Tx_test_39
abbrev t_Tx_test_35 : List UInt8 := 159 :: 0 :: 8 :: t_Tx_test_38
abbrev t_Tx_test_33 : List UInt8 := 16 :: 62 :: t_Tx_test_35
abbrev t_Tx_test_30 : List UInt8 := 180 :: 0 :: 146 :: t_Tx_test_33
abbrev t_Tx_test_29 : List UInt8 := 42 :: t_Tx_test_30
abbrev t_Tx_test_26 : List UInt8 := 159 :: 0 :: 17 :: t_Tx_test_29
abbrev t_Tx_test_24 : List UInt8 := 16 :: 61 :: t_Tx_test_26
abbrev t_Tx_test_21 : List UInt8 := 180 :: 0 :: 146 :: t_Tx_test_24
abbrev t_Tx_test_20 : List UInt8 := 42 :: t_Tx_test_21
abbrev t_Tx_test_17 : List UInt8 := 159 :: 0 :: 26 :: t_Tx_test_20
abbrev t_Tx_test_15 : List UInt8 := 16 :: 60 :: t_Tx_test_17
abbrev t_Tx_test_12 : List UInt8 := 180 :: 0 :: 146 :: t_Tx_test_15
abbrev t_Tx_test_11 : List UInt8 := 42 :: t_Tx_test_12
abbrev t_Tx_test_10 : List UInt8 := 172 :: t_Tx_test_11
abbrev t_Tx_test_9 : List UInt8 := 2 :: t_Tx_test_10
abbrev t_Tx_test_6 : List UInt8 := 156 :: 0 :: 5 :: t_Tx_test_9
abbrev t_Tx_test_5 : List UInt8 := 27 :: t_Tx_test_6
abbrev t_Tx_test_4 : List UInt8 := 60 :: t_Tx_test_5
abbrev t_Tx_test_1 : List UInt8 := 182 :: 0 :: 231 :: t_Tx_test_4
abbrev t_Tx_test_0 : List UInt8 := 42 :: t_Tx_test_1
theorem a_Tx_test_0 : dk_at b_Tx_test 0 t_Tx_test_0 := dk_start (by decide +kernel)
theorem a_Tx_test_1 : dk_at b_Tx_test 1 t_Tx_test_1 := dk_go 1 a_Tx_test_0 rfl
theorem a_Tx_test_4 : dk_at b_Tx_test 4 t_Tx_test_4 := dk_go 3 a_Tx_test_1 rfl
theorem a_Tx_test_5 : dk_at b_Tx_test 5 t_Tx_test_5 := dk_go 1 a_Tx_test_4 rfl
theorem a_Tx_test_6 : dk_at b_Tx_test 6 t_Tx_test_6 := dk_go 1 a_Tx_test_5 rfl
theorem a_Tx_test_9 : dk_at b_Tx_test 9 t_Tx_test_9 := dk_go 3 a_Tx_test_6 rfl
theorem a_Tx_test_10 : dk_at b_Tx_test 10 t_Tx_test_10 := dk_go 1 a_Tx_test_9 rfl
theorem a_Tx_test_11 : dk_at b_Tx_test 11 t_Tx_test_11 := dk_go 1 a_Tx_test_10 rfl
theorem a_Tx_test_12 : dk_at b_Tx_test 12 t_Tx_test_12 := dk_go 1 a_Tx_test_11 rfl
theorem a_Tx_test_15 : dk_at b_Tx_test 15 t_Tx_test_15 := dk_go 3 a_Tx_test_12 rfl
theorem a_Tx_test_17 : dk_at b_Tx_test 17 t_Tx_test_17 := dk_go 2 a_Tx_test_15 rfl
theorem a_Tx_test_20 : dk_at b_Tx_test 20 t_Tx_test_20 := dk_go 3 a_Tx_test_17 rfl
theorem a_Tx_test_21 : dk_at b_Tx_test 21 t_Tx_test_21 := dk_go 1 a_Tx_test_20 rfl
theorem a_Tx_test_24 : dk_at b_Tx_test 24 t_Tx_test_24 := dk_go 3 a_Tx_test_21 rfl
theorem a_Tx_test_26 : dk_at b_Tx_test 26 t_Tx_test_26 := dk_go 2 a_Tx_test_24 rfl
theorem a_Tx_test_29 : dk_at b_Tx_test 29 t_Tx_test_29 := dk_go 3 a_Tx_test_26 rfl
theorem a_Tx_test_30 : dk_at b_Tx_test 30 t_Tx_test_30 := dk_go 1 a_Tx_test_29 rfl
theorem a_Tx_test_33 : dk_at b_Tx_test 33 t_Tx_test_33 := dk_go 3 a_Tx_test_30 rfl
theorem a_Tx_test_35 : dk_at b_Tx_test 35 t_Tx_test_35 := dk_go 2 a_Tx_test_33 rfl
theorem a_Tx_test_38 : dk_at b_Tx_test 38 t_Tx_test_38 := dk_go 3 a_Tx_test_35 rfl
theorem a_Tx_test_39 : dk_at b_Tx_test 39 t_Tx_test_39 := dk_go 1 a_Tx_test_38 rfl
theorem a_Tx_test_42 : dk_at b_Tx_test 42 t_Tx_test_42 := dk_go 3 a_Tx_test_39 rfl
theorem a_Tx_test_43 : dk_at b_Tx_test 43 t_Tx_test_43 := dk_go 1 a_Tx_test_42 rfl
theorem a_Tx_test_44 : dk_at b_Tx_test 44 t_Tx_test_44 := dk_go 1 a_Tx_test_43 rfl
theorem a_Tx_test_47 : dk_at b_Tx_test 47 t_Tx_test_47 := dk_go 3 a_Tx_test_44 rfl
theorem a_Tx_test_49 : dk_at b_Tx_test 49 t_Tx_test_49 := dk_go 2 a_Tx_test_47 rfl
theorem a_Tx_test_52 : dk_at b_Tx_test 52 t_Tx_test_52 := dk_go 3 a_Tx_test_49 rfl
theorem a_Tx_test_54 : dk_at b_Tx_test 54 t_Tx_test_54 := dk_go 2 a_Tx_test_52 rfl
theorem a_Tx_test_57 : dk_at b_Tx_test 57 t_Tx_test_57 := dk_go 3 a_Tx_test_54 rfl
theorem a_Tx_test_58 : dk_at b_Tx_test 58 t_Tx_test_58 := dk_go 1 a_Tx_test_57 rfl
theorem a_Tx_test_61 : dk_at b_Tx_test 61 t_Tx_test_61 := dk_go 3 a_Tx_test_58 rfl
theorem a_Tx_test_63 : dk_at b_Tx_test 63 t_Tx_test_63 := dk_go 2 a_Tx_test_61 rfl
theorem a_Tx_test_66 : dk_at b_Tx_test 66 t_Tx_test_66 := dk_go 3 a_Tx_test_63 rfl
theorem a_Tx_test_68 : dk_at b_Tx_test 68 t_Tx_test_68 := dk_go 2 a_Tx_test_66 rfl
theorem a_Tx_test_71 : dk_at b_Tx_test 71 t_Tx_test_71 := dk_go 3 a_Tx_test_68 rfl
theorem a_Tx_test_73 : dk_at b_Tx_test 73 t_Tx_test_73 := dk_go 2 a_Tx_test_71 rfl
theorem a_Tx_test_74 : dk_at b_Tx_test 74 t_Tx_test_74 := dk_go 1 a_Tx_test_73 rfl
theorem a_Tx_test_75 : dk_at b_Tx_test 75 t_Tx_test_75 := dk_go 1 a_Tx_test_74 rfl
theorem a_Tx_test_78 : dk_at b_Tx_test 78 t_Tx_test_78 := dk_go 3 a_Tx_test_75 rfl
theorem a_Tx_test_79 : dk_at b_Tx_test 79 t_Tx_test_79 := dk_go 1 a_Tx_test_78 rfl
theorem a_Tx_test_80 : dk_at b_Tx_test 80 t_Tx_test_80 := dk_go 1 a_Tx_test_79 rfl
theorem a_Tx_test_83 : dk_at b_Tx_test 83 t_Tx_test_83 := dk_go 3 a_Tx_test_80 rfl
theorem a_Tx_test_86 : dk_at b_Tx_test 86 t_Tx_test_86 := dk_go 3 a_Tx_test_83 rfl
theorem a_Tx_test_87 : dk_at b_Tx_test 87 t_Tx_test_87 := dk_go 1 a_Tx_test_86 rfl
theorem a_Tx_test_90 : dk_at b_Tx_test 90 t_Tx_test_90 := dk_go 3 a_Tx_test_87 rfl
theorem a_Tx_test_93 : dk_at b_Tx_test 93 t_Tx_test_93 := dk_go 3 a_Tx_test_90 rfl
theorem a_Tx_test_94 : dk_at b_Tx_test 94 t_Tx_test_94 := dk_go 1 a_Tx_test_93 rfl
theorem a_Tx_test_96 : dk_at b_Tx_test 96 t_Tx_test_96 := dk_go 2 a_Tx_test_94 rfl
theorem a_Tx_test_98 : dk_at b_Tx_test 98 t_Tx_test_98 := dk_go 2 a_Tx_test_96 rfl
theorem a_Tx_test_101 : dk_at b_Tx_test 101 t_Tx_test_101 := dk_go 3 a_Tx_test_98 rfl
theorem a_Tx_test_102 : dk_at b_Tx_test 102 t_Tx_test_102 := dk_go 1 a_Tx_test_101 rfl
theorem a_Tx_test_103 : dk_at b_Tx_test 103 t_Tx_test_103 := dk_go 1 a_Tx_test_102 rfl
theorem a_Tx_test_104 : dk_at b_Tx_test 104 t_Tx_test_104 := dk_go 1 a_Tx_test_103 rfl
theorem a_Tx_test_105 : dk_at b_Tx_test 105 t_Tx_test_105 := dk_go 1 a_Tx_test_104 rfl
theorem a_Tx_test_108 : dk_at b_Tx_test 108 t_Tx_test_108 := dk_go 3 a_Tx_test_105 rfl
theorem a_Tx_test_109 : dk_at b_Tx_test 109 t_Tx_test_109 := dk_go 1 a_Tx_test_108 rfl
theorem a_Tx_test_111 : dk_at b_Tx_test 111 t_Tx_test_111 := dk_go 2 a_Tx_test_109 rfl
theorem a_Tx_test_114 : dk_at b_Tx_test 114 t_Tx_test_114 := dk_go 3 a_Tx_test_111 rfl
theorem a_Tx_test_117 : dk_at b_Tx_test 117 t_Tx_test_117 := dk_go 3 a_Tx_test_114 rfl
theorem a_Tx_test_118 : dk_at b_Tx_test 118 t_Tx_test_118 := dk_go 1 a_Tx_test_117 rfl
theorem a_Tx_test_119 : dk_at b_Tx_test 119 t_Tx_test_119 := dk_go 1 a_Tx_test_118 rfl
theorem a_Tx_test_122 : dk_at b_Tx_test 122 t_Tx_test_122 := dk_go 3 a_Tx_test_119 rfl
theorem a_Tx_test_123 : dk_at b_Tx_test 123 t_Tx_test_123 := dk_go 1 a_Tx_test_122 rfl
theorem a_Tx_test_124 : dk_at b_Tx_test 124 t_Tx_test_124 := dk_go 1 a_Tx_test_123 rfl
theorem a_Tx_test_125 : dk_at b_Tx_test 125 t_Tx_test_125 := dk_go 1 a_Tx_test_124 rfl
theorem a_Tx_test_126 : dk_at b_Tx_test 126 t_Tx_test_126 := dk_go 1 a_Tx_test_125 rfl
theorem a_Tx_test_127 : dk_at b_Tx_test 127 t_Tx_test_127 := dk_go 1 a_Tx_test_126 rfl
theorem a_Tx_test_129 : dk_at b_Tx_test 129 t_Tx_test_129 := dk_go 2 a_Tx_test_127 rfl
theorem a_Tx_test_130 : dk_at b_Tx_test 130 t_Tx_test_130 := dk_go 1 a_Tx_test_129 rfl
theorem a_Tx_test_133 : dk_at b_Tx_test 133 t_Tx_test_133 := dk_go 3 a_Tx_test_130 rfl
theorem d_Tx_test_0 : decode b_Tx_test 0 = .ok (.aload_n 0, 1) := dk_0 a_Tx_test_0 (dko_42 _)
theorem d_Tx_test_1 : decode b_Tx_test 1 = .ok (.invokevirtual 231, 3) := dk_U2 a_Tx_test_1 (dko_182 _) rfl
theorem d_Tx_test_4 : decode b_Tx_test 4 = .ok (.istore_n 1, 1) := dk_0 a_Tx_test_4 (dko_60 _)
theorem d_Tx_test_5 : decode b_Tx_test 5 = .ok (.iload_n 1, 1) := dk_0 a_Tx_test_5 (dko_27 _)
theorem d_Tx_test_6 : decode b_Tx_test 6 = .ok (.ifCond .ge 5, 3) := dk_S2 a_Tx_test_6 (dko_156 _) (by decide +kernel)
theorem d_Tx_test_9 : decode b_Tx_test 9 = .ok (.iconst (-1), 1) := dk_0 a_Tx_test_9 (dko_2 _)
theorem d_Tx_test_10 : decode b_Tx_test 10 = .ok (.ireturn, 1) := dk_0 a_Tx_test_10 (dko_172 _)
theorem d_Tx_test_11 : decode b_Tx_test 11 = .ok (.aload_n 0, 1) := dk_0 a_Tx_test_11 (dko_42 _)
theorem d_Tx_test_12 : decode b_Tx_test 12 = .ok (.getfield 146, 3) := dk_U2 a_Tx_test_12 (dko_180 _) rfl
theorem d_Tx_test_15 : decode b_Tx_test 15 = .ok (.bipush 60, 2) := dk_S1 a_Tx_test_15 (dko_16 _) (by decide +kernel)
theorem d_Tx_test_17 : decode b_Tx_test 17 = .ok (.if_icmp .eq 26, 3) := dk_S2 a_Tx_test_17 (dko_159 _) (by decide +kernel)
theorem d_Tx_test_20 : decode b_Tx_test 20 = .ok (.aload_n 0, 1) := dk_0 a_Tx_test_20 (dko_42 _)
theorem d_Tx_test_21 : decode b_Tx_test 21 = .ok (.getfield 146, 3) := dk_U2 a_Tx_test_21 (dko_180 _) rfl
theorem d_Tx_test_24 : decode b_Tx_test 24 = .ok (.bipush 61, 2) := dk_S1 a_Tx_test_24 (dko_16 _) (by decide +kernel)
theorem d_Tx_test_26 : decode b_Tx_test 26 = .ok (.if_icmp .eq 17, 3) := dk_S2 a_Tx_test_26 (dko_159 _) (by decide +kernel)
theorem d_Tx_test_29 : decode b_Tx_test 29 = .ok (.aload_n 0, 1) := dk_0 a_Tx_test_29 (dko_42 _)
theorem d_Tx_test_30 : decode b_Tx_test 30 = .ok (.getfield 146, 3) := dk_U2 a_Tx_test_30 (dko_180 _) rfl
theorem d_Tx_test_33 : decode b_Tx_test 33 = .ok (.bipush 62, 2) := dk_S1 a_Tx_test_33 (dko_16 _) (by decide +kernel)
theorem d_Tx_test_35 : decode b_Tx_test 35 = .ok (.if_icmp .eq 8, 3) := dk_S2 a_Tx_test_35 (dko_159 _) (by decide +kernel)
theorem d_Tx_test_38 : decode b_Tx_test 38 = .ok (.aload_n 0, 1) := dk_0 a_Tx_test_38 (dko_42 _)
theorem d_Tx_test_39 : decode b_Tx_test 39 = .ok (.invokevirtual 192, 3) := dk_U2 a_Tx_test_39 (dko_182 _) rfl
theorem d_Tx_test_42 : decode b_Tx_test 42 = .ok (.ireturn, 1) := dk_0 a_Tx_test_42 (dko_172 _)
theorem d_Tx_test_43 : decode b_Tx_test 43 = .ok (.aload_n 0, 1) := dk_0 a_Tx_test_43 (dko_42 _)
theorem d_Tx_test_44 : decode b_Tx_test 44 = .ok (.getfield 146, 3) := dk_U2 a_Tx_test_44 (dko_180 _) rfl
theorem d_Tx_test_47 : decode b_Tx_test 47 = .ok (.bipush 60, 2) := dk_S1 a_Tx_test_47 (dko_16 _) (by decide +kernel)
theorem d_Tx_test_49 : decode b_Tx_test 49 = .ok (.if_icmp .ne 8, 3) := dk_S2 a_Tx_test_49 (dko_160 _) (by decide +kernel)
theorem d_Tx_test_52 : decode b_Tx_test 52 = .ok (.bipush 7, 2) := dk_S1 a_Tx_test_52 (dko_16 _) (by decide +kernel)
theorem d_Tx_test_54 : decode b_Tx_test 54 = .ok (.goto 19, 3) := dk_S2 a_Tx_test_54 (dko_167 _) (by decide +kernel)
theorem d_Tx_test_57 : decode b_Tx_test 57 = .ok (.aload_n 0, 1) := dk_0 a_Tx_test_57 (dko_42 _)
theorem d_Tx_test_58 : decode b_Tx_test 58 = .ok (.getfield 146, 3) := dk_U2 a_Tx_test_58 (dko_180 _) rfl
theorem d_Tx_test_61 : decode b_Tx_test 61 = .ok (.bipush 61, 2) := dk_S1 a_Tx_test_61 (dko_16 _) (by decide +kernel)
theorem d_Tx_test_63 : decode b_Tx_test 63 = .ok (.if_icmp .ne 8, 3) := dk_S2 a_Tx_test_63 (dko_160 _) (by decide +kernel)
theorem d_Tx_test_66 : decode b_Tx_test 66 = .ok (.bipush 8, 2) := dk_S1 a_Tx_test_66 (dko_16 _) (by decide +kernel)
theorem d_Tx_test_68 : decode b_Tx_test 68 = .ok (.goto 5, 3) := dk_S2 a_Tx_test_68 (dko_167 _) (by decide +kernel)
theorem d_Tx_test_71 : decode b_Tx_test 71 = .ok (.bipush 9, 2) := dk_S1 a_Tx_test_71 (dko_16 _) (by decide +kernel)
theorem d_Tx_test_73 : decode b_Tx_test 73 = .ok (.istore_n 2, 1) := dk_0 a_Tx_test_73 (dko_61 _)
theorem d_Tx_test_74 : decode b_Tx_test 74 = .ok (.aload_n 0, 1) := dk_0 a_Tx_test_74 (dko_42 _)
theorem d_Tx_test_75 : decode b_Tx_test 75 = .ok (.getfield 69, 3) := dk_U2 a_Tx_test_75 (dko_180 _) rfl
theorem d_Tx_test_78 : decode b_Tx_test 78 = .ok (.istore_n 3, 1) := dk_0 a_Tx_test_78 (dko_62 _)
theorem d_Tx_test_79 : decode b_Tx_test 79 = .ok (.aload_n 0, 1) := dk_0 a_Tx_test_79 (dko_42 _)
theorem d_Tx_test_80 : decode b_Tx_test 80 = .ok (.invokevirtual 182, 3) := dk_U2 a_Tx_test_80 (dko_182 _) rfl
theorem d_Tx_test_83 : decode b_Tx_test 83 = .ok (.ifCond .eq 10, 3) := dk_S2 a_Tx_test_83 (dko_153 _) (by decide +kernel)
theorem d_Tx_test_86 : decode b_Tx_test 86 = .ok (.aload_n 0, 1) := dk_0 a_Tx_test_86 (dko_42 _)
theorem d_Tx_test_87 : decode b_Tx_test 87 = .ok (.invokevirtual 231, 3) := dk_U2 a_Tx_test_87 (dko_182 _) rfl
theorem d_Tx_test_90 : decode b_Tx_test 90 = .ok (.goto 4, 3) := dk_S2 a_Tx_test_90 (dko_167 _) (by decide +kernel)
theorem d_Tx_test_93 : decode b_Tx_test 93 = .ok (.iconst (-1), 1) := dk_0 a_Tx_test_93 (dko_2 _)
theorem d_Tx_test_94 : decode b_Tx_test 94 = .ok (.istore 4, 2) := dk_U1 a_Tx_test_94 (dko_54 _) rfl
theorem d_Tx_test_96 : decode b_Tx_test 96 = .ok (.iload 4, 2) := dk_U1 a_Tx_test_96 (dko_21 _) rfl
theorem d_Tx_test_98 : decode b_Tx_test 98 = .ok (.ifCond .ge 5, 3) := dk_S2 a_Tx_test_98 (dko_156 _) (by decide +kernel)
theorem d_Tx_test_101 : decode b_Tx_test 101 = .ok (.iconst (-1), 1) := dk_0 a_Tx_test_101 (dko_2 _)
theorem d_Tx_test_102 : decode b_Tx_test 102 = .ok (.ireturn, 1) := dk_0 a_Tx_test_102 (dko_172 _)
theorem d_Tx_test_103 : decode b_Tx_test 103 = .ok (.aload_n 0, 1) := dk_0 a_Tx_test_103 (dko_42 _)
theorem d_Tx_test_104 : decode b_Tx_test 104 = .ok (.iload_n 1, 1) := dk_0 a_Tx_test_104 (dko_27 _)
theorem d_Tx_test_105 : decode b_Tx_test 105 = .ok (.invokevirtual 215, 3) := dk_U2 a_Tx_test_105 (dko_182 _) rfl
theorem d_Tx_test_108 : decode b_Tx_test 108 = .ok (.aload_n 0, 1) := dk_0 a_Tx_test_108 (dko_42 _)
theorem d_Tx_test_109 : decode b_Tx_test 109 = .ok (.iload 4, 2) := dk_U1 a_Tx_test_109 (dko_21 _) rfl
theorem d_Tx_test_111 : decode b_Tx_test 111 = .ok (.invokevirtual 215, 3) := dk_U2 a_Tx_test_111 (dko_182 _) rfl
theorem d_Tx_test_114 : decode b_Tx_test 114 = .ok (.if_icmp .eq 10, 3) := dk_S2 a_Tx_test_114 (dko_159 _) (by decide +kernel)
theorem d_Tx_test_117 : decode b_Tx_test 117 = .ok (.aload_n 0, 1) := dk_0 a_Tx_test_117 (dko_42 _)
theorem d_Tx_test_118 : decode b_Tx_test 118 = .ok (.iload_n 3, 1) := dk_0 a_Tx_test_118 (dko_29 _)
theorem d_Tx_test_119 : decode b_Tx_test 119 = .ok (.putfield 159, 3) := dk_U2 a_Tx_test_119 (dko_181 _) rfl
theorem d_Tx_test_122 : decode b_Tx_test 122 = .ok (.iconst (-1), 1) := dk_0 a_Tx_test_122 (dko_2 _)
theorem d_Tx_test_123 : decode b_Tx_test 123 = .ok (.ireturn, 1) := dk_0 a_Tx_test_123 (dko_172 _)
theorem d_Tx_test_124 : decode b_Tx_test 124 = .ok (.aload_n 0, 1) := dk_0 a_Tx_test_124 (dko_42 _)
theorem d_Tx_test_125 : decode b_Tx_test 125 = .ok (.iload_n 2, 1) := dk_0 a_Tx_test_125 (dko_28 _)
theorem d_Tx_test_126 : decode b_Tx_test 126 = .ok (.iload_n 1, 1) := dk_0 a_Tx_test_126 (dko_27 _)
theorem d_Tx_test_127 : decode b_Tx_test 127 = .ok (.iload 4, 2) := dk_U1 a_Tx_test_127 (dko_21 _) rfl
theorem d_Tx_test_129 : decode b_Tx_test 129 = .ok (.iconst (-1), 1) := dk_0 a_Tx_test_129 (dko_2 _)
theorem d_Tx_test_130 : decode b_Tx_test 130 = .ok (.invokevirtual 218, 3) := dk_U2 a_Tx_test_130 (dko_182 _) rfl
theorem d_Tx_test_133 : decode b_Tx_test 133 = .ok (.ireturn, 1) := dk_0 a_Tx_test_133 (dko_172 _)
set_option maxHeartbeats 4000000 in
set_option maxRecDepth 100000 in
theorem ok_Tx_test (pc : Nat) : OpS mt mi_Tx_test pc (cs_Tx_test pc) := (os_n (os_n (os_n (os_n (os_n (os_n (os_l (so_aload_n d_Tx_test_0 rfl)) (os_l (so_callV (iv := mi_Tx_sum) rfl rfl rfl mw_2283 mw_2285 sl_127 mw_19 mw_2286 ⟨by decide +kernel, by decide +kernel, by decide +kernel⟩ (by decide) d_Tx_test_1))) (os_n (os_l (so_istore_n d_Tx_test_4 rfl (by decide))) (os_l (so_iload_n d_Tx_test_5 rfl)))) (os_n (os_n (os_l (so_ifge d_Tx_test_6 (by decide))) (os_l (so_iconst d_Tx_test_9 (by decide)))) (os_n (os_l (so_ireturn rfl d_Tx_test_10)) (os_l (so_aload_n d_Tx_test_11 rfl))))) (os_n (os_n (os_n (os_l (so_get (C := R_Tx) (T := F_Tx) (N := 39) (j := 4) in_Tx rfl (by decide) mw_1583 d_Tx_test_12)) (os_l (so_bipush d_Tx_test_15 (by decide)))) (os_n (os_l (so_iceq d_Tx_test_17 (by decide))) (os_l (so_aload_n d_Tx_test_20 rfl)))) (os_n (os_n (os_l (so_get (C := R_Tx) (T := F_Tx) (N := 39) (j := 4) in_Tx rfl (by decide) mw_1583 d_Tx_test_21)) (os_l (so_bipush d_Tx_test_24 (by decide)))) (os_n (os_l (so_iceq d_Tx_test_26 (by decide))) (os_n (os_l (so_aload_n d_Tx_test_29 rfl)) (os_l (so_get (C := R_Tx) (T := F_Tx) (N := 39) (j := 4) in_Tx rfl (by decide) mw_1583 d_Tx_test_30))))))) (os_n (os_n (os_n (os_n (os_l (so_bipush d_Tx_test_33 (by decide))) (os_l (so_iceq d_Tx_test_35 (by decide)))) (os_n (os_l (so_aload_n d_Tx_test_38 rfl)) (os_l (so_callV (iv := mi_Tx_bad) rfl rfl rfl mw_2255 mw_2257 sl_120 mw_19 mw_2258 ⟨by decide +kernel, by decide +kernel, by decide +kernel⟩ (by decide) d_Tx_test_39)))) (os_n (os_n (os_l (so_ireturn rfl d_Tx_test_42)) (os_l (so_aload_n d_Tx_test_43 rfl))) (os_n (os_l (so_get (C := R_Tx) (T := F_Tx) (N := 39) (j := 4) in_Tx rfl (by decide) mw_1583 d_Tx_test_44)) (os_n (os_l (so_bipush d_Tx_test_47 (by decide))) (os_l (so_icne d_Tx_test_49 (by decide))))))) (os_n (os_n (os_n (os_l (so_bipush d_Tx_test_52 (by decide))) (os_l (so_goto d_Tx_test_54 (by decide)))) (os_n (os_l (so_aload_n d_Tx_test_57 rfl)) (os_l (so_get (C := R_Tx) (T := F_Tx) (N := 39) (j := 4) in_Tx rfl (by decide) mw_1583 d_Tx_test_58)))) (os_n (os_n (os_l (so_bipush d_Tx_test_61 (by decide))) (os_l (so_icne d_Tx_test_63 (by decide)))) (os_n (os_l (so_bipush d_Tx_test_66 (by decide))) (os_n (os_l (so_goto d_Tx_test_68 (by decide))) (os_l (so_bipush d_Tx_test_71 (by decide))))))))) (os_n (os_n (os_n (os_n (os_n (os_l (so_istore_n d_Tx_test_73 rfl (by decide))) (os_l (so_aload_n d_Tx_test_74 rfl))) (os_n (os_l (so_get (C := R_Tx) (T := F_Tx) (N := 39) (j := 5) in_Tx rfl (by decide) mw_1584 d_Tx_test_75)) (os_l (so_istore_n d_Tx_test_78 rfl (by decide))))) (os_n (os_n (os_l (so_aload_n d_Tx_test_79 rfl)) (os_l (so_callV (iv := mi_Tx_go) rfl rfl rfl mw_2182 mw_2184 sl_111 mw_19 mw_2185 ⟨by decide +kernel, by decide +kernel, by decide +kernel⟩ (by decide) d_Tx_test_80))) (os_n (os_l (so_ifeq d_Tx_test_83 (by decide))) (os_l (so_aload_n d_Tx_test_86 rfl))))) (os_n (os_n (os_n (os_l (so_callV (iv := mi_Tx_sum) rfl rfl rfl mw_2283 mw_2285 sl_127 mw_19 mw_2286 ⟨by decide +kernel, by decide +kernel, by decide +kernel⟩ (by decide) d_Tx_test_87)) (os_l (so_goto d_Tx_test_90 (by decide)))) (os_n (os_l (so_iconst d_Tx_test_93 (by decide))) (os_l (so_istore d_Tx_test_94 (by decide))))) (os_n (os_n (os_l (so_iload d_Tx_test_96)) (os_l (so_ifge d_Tx_test_98 (by decide)))) (os_n (os_l (so_iconst d_Tx_test_101 (by decide))) (os_n (os_l (so_ireturn rfl d_Tx_test_102)) (os_l (so_aload_n d_Tx_test_103 rfl))))))) (os_n (os_n (os_n (os_n (os_l (so_iload_n d_Tx_test_104 rfl)) (os_l (so_callV (iv := mi_Tx_unitIn) rfl rfl rfl mw_2314 mw_2316 sl_134 mw_19 mw_2317 ⟨by decide +kernel, by decide +kernel, by decide +kernel⟩ (by decide) d_Tx_test_105))) (os_n (os_l (so_aload_n d_Tx_test_108 rfl)) (os_l (so_iload d_Tx_test_109)))) (os_n (os_n (os_l (so_callV (iv := mi_Tx_unitIn) rfl rfl rfl mw_2314 mw_2316 sl_134 mw_19 mw_2317 ⟨by decide +kernel, by decide +kernel, by decide +kernel⟩ (by decide) d_Tx_test_111)) (os_l (so_iceq d_Tx_test_114 (by decide)))) (os_n (os_l (so_aload_n d_Tx_test_117 rfl)) (os_n (os_l (so_iload_n d_Tx_test_118 rfl)) (os_l (so_putI (C := R_Tx) (T := F_Tx) (N := 39) (j := 10) in_Tx t_Tx_ok n_Tx rfl (by decide) mw_1589 rfl (by decide +kernel) d_Tx_test_119)))))) (os_n (os_n (os_n (os_l (so_iconst d_Tx_test_122 (by decide))) (os_l (so_ireturn rfl d_Tx_test_123))) (os_n (os_l (so_aload_n d_Tx_test_124 rfl)) (os_l (so_iload_n d_Tx_test_125 rfl)))) (os_n (os_n (os_l (so_iload_n d_Tx_test_126 rfl)) (os_l (so_iload d_Tx_test_127))) (os_n (os_l (so_iconst d_Tx_test_129 (by decide))) (os_n (os_l (so_callV (iv := mi_Tx_two) rfl rfl rfl mw_2318 mw_2320 sl_135 mw_19 mw_2321 ⟨by decide +kernel, by decide +kernel, by decide +kernel⟩ (by decide) d_Tx_test_130)) (os_l (so_ireturn rfl d_Tx_test_133)))))))))
abbrev t_Tx_nameOf_116 : List UInt8 := 172 :: []
abbrev t_Tx_nameOf_115 : List UInt8 := 2 :: t_Tx_nameOf_116
abbrev t_Tx_nameOf_112 : List UInt8 := 167 :: 255 :: 146 :: t_Tx_nameOf_115
abbrev t_Tx_nameOf_109 : List UInt8 := 132 :: 1 :: 1 :: t_Tx_nameOf_112
abbrev t_Tx_nameOf_108 : List UInt8 := 172 :: t_Tx_nameOf_109
abbrev t_Tx_nameOf_107 : List UInt8 := 27 :: t_Tx_nameOf_108
abbrev t_Tx_nameOf_104 : List UInt8 := 153 :: 0 :: 5 :: t_Tx_nameOf_107
abbrev t_Tx_nameOf_103 : List UInt8 := 29 :: t_Tx_nameOf_104
abbrev t_Tx_nameOf_100 : List UInt8 := 167 :: 255 :: 205 :: t_Tx_nameOf_103
abbrev t_Tx_nameOf_97 : List UInt8 := 132 :: 4 :: 1 :: t_Tx_nameOf_100
abbrev t_Tx_nameOf_96 : List UInt8 := 62 :: t_Tx_nameOf_97
abbrev t_Tx_nameOf_95 : List UInt8 := 3 :: t_Tx_nameOf_96
abbrev t_Tx_nameOf_92 : List UInt8 := 167 :: 0 :: 4 :: t_Tx_nameOf_95
abbrev t_Tx_nameOf_91 : List UInt8 := 4 :: t_Tx_nameOf_92
abbrev t_Tx_nameOf_88 : List UInt8 := 160 :: 0 :: 7 :: t_Tx_nameOf_91
abbrev t_Tx_nameOf_87 : List UInt8 := 51 :: t_Tx_nameOf_88
abbrev t_Tx_nameOf_86 : List UInt8 := 96 :: t_Tx_nameOf_87
abbrev t_Tx_nameOf_84 : List UInt8 := 21 :: 4 :: t_Tx_nameOf_86
abbrev t_Tx_nameOf_81 : List UInt8 := 180 :: 0 :: 69 :: t_Tx_nameOf_84
abbrev t_Tx_nameOf_80 : List UInt8 := 42 :: t_Tx_nameOf_81
abbrev t_Tx_nameOf_77 : List UInt8 := 180 :: 0 :: 11 :: t_Tx_nameOf_80
abbrev t_Tx_nameOf_76 : List UInt8 := 42 :: t_Tx_nameOf_77
abbrev t_Tx_nameOf_75 : List UInt8 := 51 :: t_Tx_nameOf_76
abbrev t_Tx_nameOf_74 : List UInt8 := 96 :: t_Tx_nameOf_75
abbrev t_Tx_nameOf_72 : List UInt8 := 21 :: 4 :: t_Tx_nameOf_74
abbrev t_Tx_nameOf_71 : List UInt8 := 104 :: t_Tx_nameOf_72
abbrev t_Tx_nameOf_70 : List UInt8 := 28 :: t_Tx_nameOf_71
abbrev t_Tx_nameOf_68 : List UInt8 := 16 :: 12 :: t_Tx_nameOf_70
abbrev t_Tx_nameOf_65 : List UInt8 := 180 :: 0 :: 41 :: t_Tx_nameOf_68
abbrev t_Tx_nameOf_64 : List UInt8 := 42 :: t_Tx_nameOf_65
abbrev t_Tx_nameOf_61 : List UInt8 := 153 :: 0 :: 42 :: t_Tx_nameOf_64
abbrev t_Tx_nameOf_60 : List UInt8 := 29 :: t_Tx_nameOf_61
abbrev t_Tx_nameOf_57 : List UInt8 := 162 :: 0 :: 46 :: t_Tx_nameOf_60
abbrev t_Tx_nameOf_56 : List UInt8 := 46 :: t_Tx_nameOf_57
abbrev t_Tx_nameOf_55 : List UInt8 := 28 :: t_Tx_nameOf_56
abbrev t_Tx_nameOf_52 : List UInt8 := 180 :: 0 :: 44 :: t_Tx_nameOf_55
abbrev t_Tx_nameOf_51 : List UInt8 := 42 :: t_Tx_nameOf_52
abbrev t_Tx_nameOf_49 : List UInt8 := 21 :: 4 :: t_Tx_nameOf_51
abbrev t_Tx_nameOf_47 : List UInt8 := 54 :: 4 :: t_Tx_nameOf_49
abbrev t_Tx_nameOf_46 : List UInt8 := 3 :: t_Tx_nameOf_47
abbrev t_Tx_nameOf_45 : List UInt8 := 62 :: t_Tx_nameOf_46
abbrev t_Tx_nameOf_44 : List UInt8 := 3 :: t_Tx_nameOf_45
abbrev t_Tx_nameOf_41 : List UInt8 := 167 :: 0 :: 4 :: t_Tx_nameOf_44
abbrev t_Tx_nameOf_40 : List UInt8 := 4 :: t_Tx_nameOf_41
abbrev t_Tx_nameOf_37 : List UInt8 := 160 :: 0 :: 7 :: t_Tx_nameOf_40
abbrev t_Tx_nameOf_36 : List UInt8 := 100 :: t_Tx_nameOf_37
abbrev t_Tx_nameOf_33 : List UInt8 := 180 :: 0 :: 69 :: t_Tx_nameOf_36
abbrev t_Tx_nameOf_32 : List UInt8 := 42 :: t_Tx_nameOf_33
abbrev t_Tx_nameOf_29 : List UInt8 := 180 :: 0 :: 72 :: t_Tx_nameOf_32
abbrev t_Tx_nameOf_28 : List UInt8 := 42 :: t_Tx_nameOf_29
abbrev t_Tx_nameOf_27 : List UInt8 := 46 :: t_Tx_nameOf_28
abbrev t_Tx_nameOf_26 : List UInt8 := 28 :: t_Tx_nameOf_27
abbrev t_Tx_nameOf_23 : List UInt8 := 180 :: 0 :: 44 :: t_Tx_nameOf_26
abbrev t_Tx_nameOf_22 : List UInt8 := 42 :: t_Tx_nameOf_23
abbrev t_Tx_nameOf_21 : List UInt8 := 61 :: t_Tx_nameOf_22
abbrev t_Tx_nameOf_20 : List UInt8 := 96 :: t_Tx_nameOf_21
abbrev t_Tx_nameOf_19 : List UInt8 := 27 :: t_Tx_nameOf_20
abbrev t_Tx_nameOf_18 : List UInt8 := 104 :: t_Tx_nameOf_19
abbrev t_Tx_nameOf_17 : List UInt8 := 100 :: t_Tx_nameOf_18
abbrev t_Tx_nameOf_14 : List UInt8 := 180 :: 0 :: 186 :: t_Tx_nameOf_17
abbrev t_Tx_nameOf_13 : List UInt8 := 42 :: t_Tx_nameOf_14
abbrev t_Tx_nameOf_12 : List UInt8 := 4 :: t_Tx_nameOf_13
abbrev t_Tx_nameOf_10 : List UInt8 := 16 :: 40 :: t_Tx_nameOf_12
abbrev t_Tx_nameOf_7 : List UInt8 := 162 :: 0 :: 108 :: t_Tx_nameOf_10
abbrev t_Tx_nameOf_4 : List UInt8 := 180 :: 0 :: 252 :: t_Tx_nameOf_7
abbrev t_Tx_nameOf_3 : List UInt8 := 42 :: t_Tx_nameOf_4
abbrev t_Tx_nameOf_2 : List UInt8 := 27 :: t_Tx_nameOf_3
abbrev t_Tx_nameOf_1 : List UInt8 := 60 :: t_Tx_nameOf_2
abbrev t_Tx_nameOf_0 : List UInt8 := 3 :: t_Tx_nameOf_1
theorem a_Tx_nameOf_0 : dk_at b_Tx_nameOf 0 t_Tx_nameOf_0 := dk_start (by decide +kernel)
theorem a_Tx_nameOf_1 : dk_at b_Tx_nameOf 1 t_Tx_nameOf_1 := dk_go 1 a_Tx_nameOf_0 rfl
theorem a_Tx_nameOf_2 : dk_at b_Tx_nameOf 2 t_Tx_nameOf_2 := dk_go 1 a_Tx_nameOf_1 rfl
theorem a_Tx_nameOf_3 : dk_at b_Tx_nameOf 3 t_Tx_nameOf_3 := dk_go 1 a_Tx_nameOf_2 rfl
theorem a_Tx_nameOf_4 : dk_at b_Tx_nameOf 4 t_Tx_nameOf_4 := dk_go 1 a_Tx_nameOf_3 rfl
theorem a_Tx_nameOf_7 : dk_at b_Tx_nameOf 7 t_Tx_nameOf_7 := dk_go 3 a_Tx_nameOf_4 rfl
theorem a_Tx_nameOf_10 : dk_at b_Tx_nameOf 10 t_Tx_nameOf_10 := dk_go 3 a_Tx_nameOf_7 rfl
theorem a_Tx_nameOf_12 : dk_at b_Tx_nameOf 12 t_Tx_nameOf_12 := dk_go 2 a_Tx_nameOf_10 rfl
theorem a_Tx_nameOf_13 : dk_at b_Tx_nameOf 13 t_Tx_nameOf_13 := dk_go 1 a_Tx_nameOf_12 rfl
theorem a_Tx_nameOf_14 : dk_at b_Tx_nameOf 14 t_Tx_nameOf_14 := dk_go 1 a_Tx_nameOf_13 rfl
theorem a_Tx_nameOf_17 : dk_at b_Tx_nameOf 17 t_Tx_nameOf_17 := dk_go 3 a_Tx_nameOf_14 rfl
theorem a_Tx_nameOf_18 : dk_at b_Tx_nameOf 18 t_Tx_nameOf_18 := dk_go 1 a_Tx_nameOf_17 rfl
theorem a_Tx_nameOf_19 : dk_at b_Tx_nameOf 19 t_Tx_nameOf_19 := dk_go 1 a_Tx_nameOf_18 rfl
theorem a_Tx_nameOf_20 : dk_at b_Tx_nameOf 20 t_Tx_nameOf_20 := dk_go 1 a_Tx_nameOf_19 rfl
theorem a_Tx_nameOf_21 : dk_at b_Tx_nameOf 21 t_Tx_nameOf_21 := dk_go 1 a_Tx_nameOf_20 rfl
theorem a_Tx_nameOf_22 : dk_at b_Tx_nameOf 22 t_Tx_nameOf_22 := dk_go 1 a_Tx_nameOf_21 rfl
theorem a_Tx_nameOf_23 : dk_at b_Tx_nameOf 23 t_Tx_nameOf_23 := dk_go 1 a_Tx_nameOf_22 rfl
theorem a_Tx_nameOf_26 : dk_at b_Tx_nameOf 26 t_Tx_nameOf_26 := dk_go 3 a_Tx_nameOf_23 rfl
theorem a_Tx_nameOf_27 : dk_at b_Tx_nameOf 27 t_Tx_nameOf_27 := dk_go 1 a_Tx_nameOf_26 rfl
theorem a_Tx_nameOf_28 : dk_at b_Tx_nameOf 28 t_Tx_nameOf_28 := dk_go 1 a_Tx_nameOf_27 rfl
theorem a_Tx_nameOf_29 : dk_at b_Tx_nameOf 29 t_Tx_nameOf_29 := dk_go 1 a_Tx_nameOf_28 rfl
theorem a_Tx_nameOf_32 : dk_at b_Tx_nameOf 32 t_Tx_nameOf_32 := dk_go 3 a_Tx_nameOf_29 rfl
theorem a_Tx_nameOf_33 : dk_at b_Tx_nameOf 33 t_Tx_nameOf_33 := dk_go 1 a_Tx_nameOf_32 rfl
theorem a_Tx_nameOf_36 : dk_at b_Tx_nameOf 36 t_Tx_nameOf_36 := dk_go 3 a_Tx_nameOf_33 rfl
theorem a_Tx_nameOf_37 : dk_at b_Tx_nameOf 37 t_Tx_nameOf_37 := dk_go 1 a_Tx_nameOf_36 rfl
theorem a_Tx_nameOf_40 : dk_at b_Tx_nameOf 40 t_Tx_nameOf_40 := dk_go 3 a_Tx_nameOf_37 rfl
theorem a_Tx_nameOf_41 : dk_at b_Tx_nameOf 41 t_Tx_nameOf_41 := dk_go 1 a_Tx_nameOf_40 rfl
theorem a_Tx_nameOf_44 : dk_at b_Tx_nameOf 44 t_Tx_nameOf_44 := dk_go 3 a_Tx_nameOf_41 rfl
theorem a_Tx_nameOf_45 : dk_at b_Tx_nameOf 45 t_Tx_nameOf_45 := dk_go 1 a_Tx_nameOf_44 rfl
theorem a_Tx_nameOf_46 : dk_at b_Tx_nameOf 46 t_Tx_nameOf_46 := dk_go 1 a_Tx_nameOf_45 rfl
theorem a_Tx_nameOf_47 : dk_at b_Tx_nameOf 47 t_Tx_nameOf_47 := dk_go 1 a_Tx_nameOf_46 rfl
theorem a_Tx_nameOf_49 : dk_at b_Tx_nameOf 49 t_Tx_nameOf_49 := dk_go 2 a_Tx_nameOf_47 rfl
theorem a_Tx_nameOf_51 : dk_at b_Tx_nameOf 51 t_Tx_nameOf_51 := dk_go 2 a_Tx_nameOf_49 rfl
theorem a_Tx_nameOf_52 : dk_at b_Tx_nameOf 52 t_Tx_nameOf_52 := dk_go 1 a_Tx_nameOf_51 rfl
theorem a_Tx_nameOf_55 : dk_at b_Tx_nameOf 55 t_Tx_nameOf_55 := dk_go 3 a_Tx_nameOf_52 rfl
theorem a_Tx_nameOf_56 : dk_at b_Tx_nameOf 56 t_Tx_nameOf_56 := dk_go 1 a_Tx_nameOf_55 rfl
theorem a_Tx_nameOf_57 : dk_at b_Tx_nameOf 57 t_Tx_nameOf_57 := dk_go 1 a_Tx_nameOf_56 rfl
theorem a_Tx_nameOf_60 : dk_at b_Tx_nameOf 60 t_Tx_nameOf_60 := dk_go 3 a_Tx_nameOf_57 rfl
theorem a_Tx_nameOf_61 : dk_at b_Tx_nameOf 61 t_Tx_nameOf_61 := dk_go 1 a_Tx_nameOf_60 rfl
theorem a_Tx_nameOf_64 : dk_at b_Tx_nameOf 64 t_Tx_nameOf_64 := dk_go 3 a_Tx_nameOf_61 rfl
theorem a_Tx_nameOf_65 : dk_at b_Tx_nameOf 65 t_Tx_nameOf_65 := dk_go 1 a_Tx_nameOf_64 rfl
theorem a_Tx_nameOf_68 : dk_at b_Tx_nameOf 68 t_Tx_nameOf_68 := dk_go 3 a_Tx_nameOf_65 rfl
theorem a_Tx_nameOf_70 : dk_at b_Tx_nameOf 70 t_Tx_nameOf_70 := dk_go 2 a_Tx_nameOf_68 rfl
theorem a_Tx_nameOf_71 : dk_at b_Tx_nameOf 71 t_Tx_nameOf_71 := dk_go 1 a_Tx_nameOf_70 rfl
theorem a_Tx_nameOf_72 : dk_at b_Tx_nameOf 72 t_Tx_nameOf_72 := dk_go 1 a_Tx_nameOf_71 rfl
theorem a_Tx_nameOf_74 : dk_at b_Tx_nameOf 74 t_Tx_nameOf_74 := dk_go 2 a_Tx_nameOf_72 rfl
theorem a_Tx_nameOf_75 : dk_at b_Tx_nameOf 75 t_Tx_nameOf_75 := dk_go 1 a_Tx_nameOf_74 rfl
theorem a_Tx_nameOf_76 : dk_at b_Tx_nameOf 76 t_Tx_nameOf_76 := dk_go 1 a_Tx_nameOf_75 rfl
theorem a_Tx_nameOf_77 : dk_at b_Tx_nameOf 77 t_Tx_nameOf_77 := dk_go 1 a_Tx_nameOf_76 rfl
theorem a_Tx_nameOf_80 : dk_at b_Tx_nameOf 80 t_Tx_nameOf_80 := dk_go 3 a_Tx_nameOf_77 rfl
theorem a_Tx_nameOf_81 : dk_at b_Tx_nameOf 81 t_Tx_nameOf_81 := dk_go 1 a_Tx_nameOf_80 rfl
theorem a_Tx_nameOf_84 : dk_at b_Tx_nameOf 84 t_Tx_nameOf_84 := dk_go 3 a_Tx_nameOf_81 rfl
theorem a_Tx_nameOf_86 : dk_at b_Tx_nameOf 86 t_Tx_nameOf_86 := dk_go 2 a_Tx_nameOf_84 rfl
theorem a_Tx_nameOf_87 : dk_at b_Tx_nameOf 87 t_Tx_nameOf_87 := dk_go 1 a_Tx_nameOf_86 rfl
theorem a_Tx_nameOf_88 : dk_at b_Tx_nameOf 88 t_Tx_nameOf_88 := dk_go 1 a_Tx_nameOf_87 rfl
theorem a_Tx_nameOf_91 : dk_at b_Tx_nameOf 91 t_Tx_nameOf_91 := dk_go 3 a_Tx_nameOf_88 rfl
theorem a_Tx_nameOf_92 : dk_at b_Tx_nameOf 92 t_Tx_nameOf_92 := dk_go 1 a_Tx_nameOf_91 rfl
theorem a_Tx_nameOf_95 : dk_at b_Tx_nameOf 95 t_Tx_nameOf_95 := dk_go 3 a_Tx_nameOf_92 rfl
theorem a_Tx_nameOf_96 : dk_at b_Tx_nameOf 96 t_Tx_nameOf_96 := dk_go 1 a_Tx_nameOf_95 rfl
theorem a_Tx_nameOf_97 : dk_at b_Tx_nameOf 97 t_Tx_nameOf_97 := dk_go 1 a_Tx_nameOf_96 rfl
theorem a_Tx_nameOf_100 : dk_at b_Tx_nameOf 100 t_Tx_nameOf_100 := dk_go 3 a_Tx_nameOf_97 rfl
theorem a_Tx_nameOf_103 : dk_at b_Tx_nameOf 103 t_Tx_nameOf_103 := dk_go 3 a_Tx_nameOf_100 rfl
theorem a_Tx_nameOf_104 : dk_at b_Tx_nameOf 104 t_Tx_nameOf_104 := dk_go 1 a_Tx_nameOf_103 rfl
theorem a_Tx_nameOf_107 : dk_at b_Tx_nameOf 107 t_Tx_nameOf_107 := dk_go 3 a_Tx_nameOf_104 rfl
theorem a_Tx_nameOf_108 : dk_at b_Tx_nameOf 108 t_Tx_nameOf_108 := dk_go 1 a_Tx_nameOf_107 rfl
theorem a_Tx_nameOf_109 : dk_at b_Tx_nameOf 109 t_Tx_nameOf_109 := dk_go 1 a_Tx_nameOf_108 rfl
theorem a_Tx_nameOf_112 : dk_at b_Tx_nameOf 112 t_Tx_nameOf_112 := dk_go 3 a_Tx_nameOf_109 rfl
theorem a_Tx_nameOf_115 : dk_at b_Tx_nameOf 115 t_Tx_nameOf_115 := dk_go 3 a_Tx_nameOf_112 rfl
theorem a_Tx_nameOf_116 : dk_at b_Tx_nameOf 116 t_Tx_nameOf_116 := dk_go 1 a_Tx_nameOf_115 rfl
theorem d_Tx_nameOf_0 : decode b_Tx_nameOf 0 = .ok (.iconst 0, 1) := dk_0 a_Tx_nameOf_0 (dko_3 _)
theorem d_Tx_nameOf_1 : decode b_Tx_nameOf 1 = .ok (.istore_n 1, 1) := dk_0 a_Tx_nameOf_1 (dko_60 _)
theorem d_Tx_nameOf_2 : decode b_Tx_nameOf 2 = .ok (.iload_n 1, 1) := dk_0 a_Tx_nameOf_2 (dko_27 _)
theorem d_Tx_nameOf_3 : decode b_Tx_nameOf 3 = .ok (.aload_n 0, 1) := dk_0 a_Tx_nameOf_3 (dko_42 _)
theorem d_Tx_nameOf_4 : decode b_Tx_nameOf 4 = .ok (.getfield 252, 3) := dk_U2 a_Tx_nameOf_4 (dko_180 _) rfl
theorem d_Tx_nameOf_7 : decode b_Tx_nameOf 7 = .ok (.if_icmp .ge 108, 3) := dk_S2 a_Tx_nameOf_7 (dko_162 _) (by decide +kernel)
theorem d_Tx_nameOf_10 : decode b_Tx_nameOf 10 = .ok (.bipush 40, 2) := dk_S1 a_Tx_nameOf_10 (dko_16 _) (by decide +kernel)
theorem d_Tx_nameOf_12 : decode b_Tx_nameOf 12 = .ok (.iconst 1, 1) := dk_0 a_Tx_nameOf_12 (dko_4 _)
theorem d_Tx_nameOf_13 : decode b_Tx_nameOf 13 = .ok (.aload_n 0, 1) := dk_0 a_Tx_nameOf_13 (dko_42 _)
theorem d_Tx_nameOf_14 : decode b_Tx_nameOf 14 = .ok (.getfield 186, 3) := dk_U2 a_Tx_nameOf_14 (dko_180 _) rfl
theorem d_Tx_nameOf_17 : decode b_Tx_nameOf 17 = .ok (.isub, 1) := dk_0 a_Tx_nameOf_17 (dko_100 _)
theorem d_Tx_nameOf_18 : decode b_Tx_nameOf 18 = .ok (.imul, 1) := dk_0 a_Tx_nameOf_18 (dko_104 _)
theorem d_Tx_nameOf_19 : decode b_Tx_nameOf 19 = .ok (.iload_n 1, 1) := dk_0 a_Tx_nameOf_19 (dko_27 _)
theorem d_Tx_nameOf_20 : decode b_Tx_nameOf 20 = .ok (.iadd, 1) := dk_0 a_Tx_nameOf_20 (dko_96 _)
theorem d_Tx_nameOf_21 : decode b_Tx_nameOf 21 = .ok (.istore_n 2, 1) := dk_0 a_Tx_nameOf_21 (dko_61 _)
theorem d_Tx_nameOf_22 : decode b_Tx_nameOf 22 = .ok (.aload_n 0, 1) := dk_0 a_Tx_nameOf_22 (dko_42 _)
theorem d_Tx_nameOf_23 : decode b_Tx_nameOf 23 = .ok (.getfield 44, 3) := dk_U2 a_Tx_nameOf_23 (dko_180 _) rfl
theorem d_Tx_nameOf_26 : decode b_Tx_nameOf 26 = .ok (.iload_n 2, 1) := dk_0 a_Tx_nameOf_26 (dko_28 _)
theorem d_Tx_nameOf_27 : decode b_Tx_nameOf 27 = .ok (.iaload, 1) := dk_0 a_Tx_nameOf_27 (dko_46 _)
theorem d_Tx_nameOf_28 : decode b_Tx_nameOf 28 = .ok (.aload_n 0, 1) := dk_0 a_Tx_nameOf_28 (dko_42 _)
theorem d_Tx_nameOf_29 : decode b_Tx_nameOf 29 = .ok (.getfield 72, 3) := dk_U2 a_Tx_nameOf_29 (dko_180 _) rfl
theorem d_Tx_nameOf_32 : decode b_Tx_nameOf 32 = .ok (.aload_n 0, 1) := dk_0 a_Tx_nameOf_32 (dko_42 _)
theorem d_Tx_nameOf_33 : decode b_Tx_nameOf 33 = .ok (.getfield 69, 3) := dk_U2 a_Tx_nameOf_33 (dko_180 _) rfl
theorem d_Tx_nameOf_36 : decode b_Tx_nameOf 36 = .ok (.isub, 1) := dk_0 a_Tx_nameOf_36 (dko_100 _)
theorem d_Tx_nameOf_37 : decode b_Tx_nameOf 37 = .ok (.if_icmp .ne 7, 3) := dk_S2 a_Tx_nameOf_37 (dko_160 _) (by decide +kernel)
theorem d_Tx_nameOf_40 : decode b_Tx_nameOf 40 = .ok (.iconst 1, 1) := dk_0 a_Tx_nameOf_40 (dko_4 _)
theorem d_Tx_nameOf_41 : decode b_Tx_nameOf 41 = .ok (.goto 4, 3) := dk_S2 a_Tx_nameOf_41 (dko_167 _) (by decide +kernel)
theorem d_Tx_nameOf_44 : decode b_Tx_nameOf 44 = .ok (.iconst 0, 1) := dk_0 a_Tx_nameOf_44 (dko_3 _)
theorem d_Tx_nameOf_45 : decode b_Tx_nameOf 45 = .ok (.istore_n 3, 1) := dk_0 a_Tx_nameOf_45 (dko_62 _)
theorem d_Tx_nameOf_46 : decode b_Tx_nameOf 46 = .ok (.iconst 0, 1) := dk_0 a_Tx_nameOf_46 (dko_3 _)
theorem d_Tx_nameOf_47 : decode b_Tx_nameOf 47 = .ok (.istore 4, 2) := dk_U1 a_Tx_nameOf_47 (dko_54 _) rfl
theorem d_Tx_nameOf_49 : decode b_Tx_nameOf 49 = .ok (.iload 4, 2) := dk_U1 a_Tx_nameOf_49 (dko_21 _) rfl
theorem d_Tx_nameOf_51 : decode b_Tx_nameOf 51 = .ok (.aload_n 0, 1) := dk_0 a_Tx_nameOf_51 (dko_42 _)
theorem d_Tx_nameOf_52 : decode b_Tx_nameOf 52 = .ok (.getfield 44, 3) := dk_U2 a_Tx_nameOf_52 (dko_180 _) rfl
theorem d_Tx_nameOf_55 : decode b_Tx_nameOf 55 = .ok (.iload_n 2, 1) := dk_0 a_Tx_nameOf_55 (dko_28 _)
theorem d_Tx_nameOf_56 : decode b_Tx_nameOf 56 = .ok (.iaload, 1) := dk_0 a_Tx_nameOf_56 (dko_46 _)
theorem d_Tx_nameOf_57 : decode b_Tx_nameOf 57 = .ok (.if_icmp .ge 46, 3) := dk_S2 a_Tx_nameOf_57 (dko_162 _) (by decide +kernel)
theorem d_Tx_nameOf_60 : decode b_Tx_nameOf 60 = .ok (.iload_n 3, 1) := dk_0 a_Tx_nameOf_60 (dko_29 _)
theorem d_Tx_nameOf_61 : decode b_Tx_nameOf 61 = .ok (.ifCond .eq 42, 3) := dk_S2 a_Tx_nameOf_61 (dko_153 _) (by decide +kernel)
theorem d_Tx_nameOf_64 : decode b_Tx_nameOf 64 = .ok (.aload_n 0, 1) := dk_0 a_Tx_nameOf_64 (dko_42 _)
theorem d_Tx_nameOf_65 : decode b_Tx_nameOf 65 = .ok (.getfield 41, 3) := dk_U2 a_Tx_nameOf_65 (dko_180 _) rfl
theorem d_Tx_nameOf_68 : decode b_Tx_nameOf 68 = .ok (.bipush 12, 2) := dk_S1 a_Tx_nameOf_68 (dko_16 _) (by decide +kernel)
theorem d_Tx_nameOf_70 : decode b_Tx_nameOf 70 = .ok (.iload_n 2, 1) := dk_0 a_Tx_nameOf_70 (dko_28 _)
theorem d_Tx_nameOf_71 : decode b_Tx_nameOf 71 = .ok (.imul, 1) := dk_0 a_Tx_nameOf_71 (dko_104 _)
theorem d_Tx_nameOf_72 : decode b_Tx_nameOf 72 = .ok (.iload 4, 2) := dk_U1 a_Tx_nameOf_72 (dko_21 _) rfl
theorem d_Tx_nameOf_74 : decode b_Tx_nameOf 74 = .ok (.iadd, 1) := dk_0 a_Tx_nameOf_74 (dko_96 _)
theorem d_Tx_nameOf_75 : decode b_Tx_nameOf 75 = .ok (.baload, 1) := dk_0 a_Tx_nameOf_75 (dko_51 _)
theorem d_Tx_nameOf_76 : decode b_Tx_nameOf 76 = .ok (.aload_n 0, 1) := dk_0 a_Tx_nameOf_76 (dko_42 _)
theorem d_Tx_nameOf_77 : decode b_Tx_nameOf 77 = .ok (.getfield 11, 3) := dk_U2 a_Tx_nameOf_77 (dko_180 _) rfl
theorem d_Tx_nameOf_80 : decode b_Tx_nameOf 80 = .ok (.aload_n 0, 1) := dk_0 a_Tx_nameOf_80 (dko_42 _)
theorem d_Tx_nameOf_81 : decode b_Tx_nameOf 81 = .ok (.getfield 69, 3) := dk_U2 a_Tx_nameOf_81 (dko_180 _) rfl
theorem d_Tx_nameOf_84 : decode b_Tx_nameOf 84 = .ok (.iload 4, 2) := dk_U1 a_Tx_nameOf_84 (dko_21 _) rfl
theorem d_Tx_nameOf_86 : decode b_Tx_nameOf 86 = .ok (.iadd, 1) := dk_0 a_Tx_nameOf_86 (dko_96 _)
theorem d_Tx_nameOf_87 : decode b_Tx_nameOf 87 = .ok (.baload, 1) := dk_0 a_Tx_nameOf_87 (dko_51 _)
theorem d_Tx_nameOf_88 : decode b_Tx_nameOf 88 = .ok (.if_icmp .ne 7, 3) := dk_S2 a_Tx_nameOf_88 (dko_160 _) (by decide +kernel)
theorem d_Tx_nameOf_91 : decode b_Tx_nameOf 91 = .ok (.iconst 1, 1) := dk_0 a_Tx_nameOf_91 (dko_4 _)
theorem d_Tx_nameOf_92 : decode b_Tx_nameOf 92 = .ok (.goto 4, 3) := dk_S2 a_Tx_nameOf_92 (dko_167 _) (by decide +kernel)
theorem d_Tx_nameOf_95 : decode b_Tx_nameOf 95 = .ok (.iconst 0, 1) := dk_0 a_Tx_nameOf_95 (dko_3 _)
theorem d_Tx_nameOf_96 : decode b_Tx_nameOf 96 = .ok (.istore_n 3, 1) := dk_0 a_Tx_nameOf_96 (dko_62 _)
theorem d_Tx_nameOf_97 : decode b_Tx_nameOf 97 = .ok (.iinc 4 1, 3) := dk_US a_Tx_nameOf_97 (dko_132 _) (by decide +kernel)
theorem d_Tx_nameOf_100 : decode b_Tx_nameOf 100 = .ok (.goto (-51), 3) := dk_S2 a_Tx_nameOf_100 (dko_167 _) (by decide +kernel)
theorem d_Tx_nameOf_103 : decode b_Tx_nameOf 103 = .ok (.iload_n 3, 1) := dk_0 a_Tx_nameOf_103 (dko_29 _)
theorem d_Tx_nameOf_104 : decode b_Tx_nameOf 104 = .ok (.ifCond .eq 5, 3) := dk_S2 a_Tx_nameOf_104 (dko_153 _) (by decide +kernel)
theorem d_Tx_nameOf_107 : decode b_Tx_nameOf 107 = .ok (.iload_n 1, 1) := dk_0 a_Tx_nameOf_107 (dko_27 _)
theorem d_Tx_nameOf_108 : decode b_Tx_nameOf 108 = .ok (.ireturn, 1) := dk_0 a_Tx_nameOf_108 (dko_172 _)
theorem d_Tx_nameOf_109 : decode b_Tx_nameOf 109 = .ok (.iinc 1 1, 3) := dk_US a_Tx_nameOf_109 (dko_132 _) (by decide +kernel)
theorem d_Tx_nameOf_112 : decode b_Tx_nameOf 112 = .ok (.goto (-110), 3) := dk_S2 a_Tx_nameOf_112 (dko_167 _) (by decide +kernel)
theorem d_Tx_nameOf_115 : decode b_Tx_nameOf 115 = .ok (.iconst (-1), 1) := dk_0 a_Tx_nameOf_115 (dko_2 _)
theorem d_Tx_nameOf_116 : decode b_Tx_nameOf 116 = .ok (.ireturn, 1) := dk_0 a_Tx_nameOf_116 (dko_172 _)
set_option maxHeartbeats 4000000 in
set_option maxRecDepth 100000 in
theorem ok_Tx_nameOf (pc : Nat) : OpS mt mi_Tx_nameOf pc (cs_Tx_nameOf pc) := (os_n (os_n (os_n (os_n (os_n (os_n (os_l (so_iconst d_Tx_nameOf_0 (by decide))) (os_l (so_istore_n d_Tx_nameOf_1 rfl (by decide)))) (os_n (os_l (so_iload_n d_Tx_nameOf_2 rfl)) (os_l (so_aload_n d_Tx_nameOf_3 rfl)))) (os_n (os_n (os_l (so_get (C := R_Tx) (T := F_Tx) (N := 39) (j := 24) in_Tx rfl (by decide) mw_1608 d_Tx_nameOf_4)) (os_l (so_icge d_Tx_nameOf_7 (by decide)))) (os_n (os_l (so_bipush d_Tx_nameOf_10 (by decide))) (os_l (so_iconst d_Tx_nameOf_12 (by decide)))))) (os_n (os_n (os_n (os_l (so_aload_n d_Tx_nameOf_13 rfl)) (os_l (so_get (C := R_Tx) (T := F_Tx) (N := 39) (j := 12) in_Tx rfl (by decide) mw_1591 d_Tx_nameOf_14))) (os_n (os_l (so_isub d_Tx_nameOf_17)) (os_l (so_imul d_Tx_nameOf_18)))) (os_n (os_n (os_l (so_iload_n d_Tx_nameOf_19 rfl)) (os_l (so_iadd d_Tx_nameOf_20))) (os_n (os_l (so_istore_n d_Tx_nameOf_21 rfl (by decide))) (os_n (os_l (so_aload_n d_Tx_nameOf_22 rfl)) (os_l (so_get (C := R_Tx) (T := F_Tx) (N := 39) (j := 26) in_Tx rfl (by decide) mw_1610 d_Tx_nameOf_23))))))) (os_n (os_n (os_n (os_n (os_l (so_iload_n d_Tx_nameOf_26 rfl)) (os_l (so_iaload d_Tx_nameOf_27))) (os_n (os_l (so_aload_n d_Tx_nameOf_28 rfl)) (os_l (so_get (C := R_Tx) (T := F_Tx) (N := 39) (j := 6) in_Tx rfl (by decide) mw_1585 d_Tx_nameOf_29)))) (os_n (os_n (os_l (so_aload_n d_Tx_nameOf_32 rfl)) (os_l (so_get (C := R_Tx) (T := F_Tx) (N := 39) (j := 5) in_Tx rfl (by decide) mw_1584 d_Tx_nameOf_33))) (os_n (os_l (so_isub d_Tx_nameOf_36)) (os_l (so_icne d_Tx_nameOf_37 (by decide)))))) (os_n (os_n (os_n (os_l (so_iconst d_Tx_nameOf_40 (by decide))) (os_l (so_goto d_Tx_nameOf_41 (by decide)))) (os_n (os_l (so_iconst d_Tx_nameOf_44 (by decide))) (os_l (so_istore_n d_Tx_nameOf_45 rfl (by decide))))) (os_n (os_n (os_l (so_iconst d_Tx_nameOf_46 (by decide))) (os_l (so_istore d_Tx_nameOf_47 (by decide)))) (os_n (os_l (so_iload d_Tx_nameOf_49)) (os_n (os_l (so_aload_n d_Tx_nameOf_51 rfl)) (os_l (so_get (C := R_Tx) (T := F_Tx) (N := 39) (j := 26) in_Tx rfl (by decide) mw_1610 d_Tx_nameOf_52)))))))) (os_n (os_n (os_n (os_n (os_n (os_l (so_iload_n d_Tx_nameOf_55 rfl)) (os_l (so_iaload d_Tx_nameOf_56))) (os_n (os_l (so_icge d_Tx_nameOf_57 (by decide))) (os_l (so_iload_n d_Tx_nameOf_60 rfl)))) (os_n (os_n (os_l (so_ifeq d_Tx_nameOf_61 (by decide))) (os_l (so_aload_n d_Tx_nameOf_64 rfl))) (os_n (os_l (so_get (C := R_Tx) (T := F_Tx) (N := 39) (j := 25) in_Tx rfl (by decide) mw_1609 d_Tx_nameOf_65)) (os_l (so_bipush d_Tx_nameOf_68 (by decide)))))) (os_n (os_n (os_n (os_l (so_iload_n d_Tx_nameOf_70 rfl)) (os_l (so_imul d_Tx_nameOf_71))) (os_n (os_l (so_iload d_Tx_nameOf_72)) (os_l (so_iadd d_Tx_nameOf_74)))) (os_n (os_n (os_l (so_baload d_Tx_nameOf_75)) (os_l (so_aload_n d_Tx_nameOf_76 rfl))) (os_n (os_l (so_get (C := R_Tx) (T := F_Tx) (N := 39) (j := 0) in_Tx rfl (by decide) mw_1579 d_Tx_nameOf_77)) (os_n (os_l (so_aload_n d_Tx_nameOf_80 rfl)) (os_l (so_get (C := R_Tx) (T := F_Tx) (N := 39) (j := 5) in_Tx rfl (by decide) mw_1584 d_Tx_nameOf_81))))))) (os_n (os_n (os_n (os_n (os_l (so_iload d_Tx_nameOf_84)) (os_l (so_iadd d_Tx_nameOf_86))) (os_n (os_l (so_baload d_Tx_nameOf_87)) (os_l (so_icne d_Tx_nameOf_88 (by decide))))) (os_n (os_n (os_l (so_iconst d_Tx_nameOf_91 (by decide))) (os_l (so_goto d_Tx_nameOf_92 (by decide)))) (os_n (os_l (so_iconst d_Tx_nameOf_95 (by decide))) (os_n (os_l (so_istore_n d_Tx_nameOf_96 rfl (by decide))) (os_l (so_iinc d_Tx_nameOf_97 (by decide) (by decide))))))) (os_n (os_n (os_n (os_l (so_goto d_Tx_nameOf_100 (by decide))) (os_l (so_iload_n d_Tx_nameOf_103 rfl))) (os_n (os_l (so_ifeq d_Tx_nameOf_104 (by decide))) (os_l (so_iload_n d_Tx_nameOf_107 rfl)))) (os_n (os_n (os_l (so_ireturn rfl d_Tx_nameOf_108)) (os_l (so_iinc d_Tx_nameOf_109 (by decide) (by decide)))) (os_n (os_l (so_goto d_Tx_nameOf_112 (by decide))) (os_n (os_l (so_iconst d_Tx_nameOf_115 (by decide))) (os_l (so_ireturn rfl d_Tx_nameOf_116)))))))))
abbrev t_Tx_tell_137 : List UInt8 := 172 :: []
abbrev t_Tx_tell_136 : List UInt8 := 100 :: t_Tx_tell_137
abbrev t_Tx_tell_135 : List UInt8 := 4 :: t_Tx_tell_136
abbrev t_Tx_tell_132 : List UInt8 := 180 :: 0 :: 252 :: t_Tx_tell_135
abbrev t_Tx_tell_131 : List UInt8 := 42 :: t_Tx_tell_132
abbrev t_Tx_tell_128 : List UInt8 := 181 :: 0 :: 252 :: t_Tx_tell_131
abbrev t_Tx_tell_127 : List UInt8 := 96 :: t_Tx_tell_128
abbrev t_Tx_tell_126 : List UInt8 := 4 :: t_Tx_tell_127
abbrev t_Tx_tell_123 : List UInt8 := 180 :: 0 :: 252 :: t_Tx_tell_126
abbrev t_Tx_tell_122 : List UInt8 := 89 :: t_Tx_tell_123
abbrev t_Tx_tell_121 : List UInt8 := 42 :: t_Tx_tell_122
abbrev t_Tx_tell_120 : List UInt8 := 79 :: t_Tx_tell_121
abbrev t_Tx_tell_119 : List UInt8 := 2 :: t_Tx_tell_120
abbrev t_Tx_tell_118 : List UInt8 := 28 :: t_Tx_tell_119
abbrev t_Tx_tell_115 : List UInt8 := 180 :: 0 :: 53 :: t_Tx_tell_118
abbrev t_Tx_tell_114 : List UInt8 := 42 :: t_Tx_tell_115
abbrev t_Tx_tell_113 : List UInt8 := 79 :: t_Tx_tell_114
abbrev t_Tx_tell_112 : List UInt8 := 3 :: t_Tx_tell_113
abbrev t_Tx_tell_111 : List UInt8 := 28 :: t_Tx_tell_112
abbrev t_Tx_tell_108 : List UInt8 := 180 :: 0 :: 50 :: t_Tx_tell_111
abbrev t_Tx_tell_107 : List UInt8 := 42 :: t_Tx_tell_108
abbrev t_Tx_tell_106 : List UInt8 := 79 :: t_Tx_tell_107
abbrev t_Tx_tell_105 : List UInt8 := 27 :: t_Tx_tell_106
abbrev t_Tx_tell_104 : List UInt8 := 28 :: t_Tx_tell_105
abbrev t_Tx_tell_101 : List UInt8 := 180 :: 0 :: 47 :: t_Tx_tell_104
abbrev t_Tx_tell_100 : List UInt8 := 42 :: t_Tx_tell_101
abbrev t_Tx_tell_99 : List UInt8 := 79 :: t_Tx_tell_100
abbrev t_Tx_tell_98 : List UInt8 := 100 :: t_Tx_tell_99
abbrev t_Tx_tell_95 : List UInt8 := 180 :: 0 :: 69 :: t_Tx_tell_98
abbrev t_Tx_tell_94 : List UInt8 := 42 :: t_Tx_tell_95
abbrev t_Tx_tell_91 : List UInt8 := 180 :: 0 :: 72 :: t_Tx_tell_94
abbrev t_Tx_tell_90 : List UInt8 := 42 :: t_Tx_tell_91
abbrev t_Tx_tell_89 : List UInt8 := 28 :: t_Tx_tell_90
abbrev t_Tx_tell_86 : List UInt8 := 180 :: 0 :: 44 :: t_Tx_tell_89
abbrev t_Tx_tell_85 : List UInt8 := 42 :: t_Tx_tell_86
abbrev t_Tx_tell_82 : List UInt8 := 167 :: 255 :: 223 :: t_Tx_tell_85
abbrev t_Tx_tell_79 : List UInt8 := 132 :: 3 :: 1 :: t_Tx_tell_82
abbrev t_Tx_tell_78 : List UInt8 := 84 :: t_Tx_tell_79
abbrev t_Tx_tell_77 : List UInt8 := 51 :: t_Tx_tell_78
abbrev t_Tx_tell_76 : List UInt8 := 29 :: t_Tx_tell_77
abbrev t_Tx_tell_73 : List UInt8 := 180 :: 0 :: 11 :: t_Tx_tell_76
abbrev t_Tx_tell_72 : List UInt8 := 42 :: t_Tx_tell_73
abbrev t_Tx_tell_71 : List UInt8 := 100 :: t_Tx_tell_72
abbrev t_Tx_tell_68 : List UInt8 := 180 :: 0 :: 69 :: t_Tx_tell_71
abbrev t_Tx_tell_67 : List UInt8 := 42 :: t_Tx_tell_68
abbrev t_Tx_tell_66 : List UInt8 := 96 :: t_Tx_tell_67
abbrev t_Tx_tell_65 : List UInt8 := 29 :: t_Tx_tell_66
abbrev t_Tx_tell_64 : List UInt8 := 104 :: t_Tx_tell_65
abbrev t_Tx_tell_63 : List UInt8 := 28 :: t_Tx_tell_64
abbrev t_Tx_tell_61 : List UInt8 := 16 :: 12 :: t_Tx_tell_63
abbrev t_Tx_tell_58 : List UInt8 := 180 :: 0 :: 41 :: t_Tx_tell_61
abbrev t_Tx_tell_57 : List UInt8 := 42 :: t_Tx_tell_58
abbrev t_Tx_tell_54 : List UInt8 := 162 :: 0 :: 31 :: t_Tx_tell_57
abbrev t_Tx_tell_51 : List UInt8 := 180 :: 0 :: 72 :: t_Tx_tell_54
abbrev t_Tx_tell_50 : List UInt8 := 42 :: t_Tx_tell_51
abbrev t_Tx_tell_49 : List UInt8 := 29 :: t_Tx_tell_50
abbrev t_Tx_tell_48 : List UInt8 := 62 :: t_Tx_tell_49
abbrev t_Tx_tell_45 : List UInt8 := 180 :: 0 :: 69 :: t_Tx_tell_48
abbrev t_Tx_tell_44 : List UInt8 := 42 :: t_Tx_tell_45
abbrev t_Tx_tell_43 : List UInt8 := 61 :: t_Tx_tell_44
abbrev t_Tx_tell_42 : List UInt8 := 96 :: t_Tx_tell_43
abbrev t_Tx_tell_39 : List UInt8 := 180 :: 0 :: 252 :: t_Tx_tell_42
abbrev t_Tx_tell_38 : List UInt8 := 42 :: t_Tx_tell_39
abbrev t_Tx_tell_37 : List UInt8 := 104 :: t_Tx_tell_38
abbrev t_Tx_tell_36 : List UInt8 := 100 :: t_Tx_tell_37
abbrev t_Tx_tell_33 : List UInt8 := 180 :: 0 :: 186 :: t_Tx_tell_36
abbrev t_Tx_tell_32 : List UInt8 := 42 :: t_Tx_tell_33
abbrev t_Tx_tell_31 : List UInt8 := 4 :: t_Tx_tell_32
abbrev t_Tx_tell_29 : List UInt8 := 16 :: 40 :: t_Tx_tell_31
abbrev t_Tx_tell_28 : List UInt8 := 172 :: t_Tx_tell_29
abbrev t_Tx_tell_25 : List UInt8 := 182 :: 0 :: 192 :: t_Tx_tell_28
abbrev t_Tx_tell_24 : List UInt8 := 42 :: t_Tx_tell_25
abbrev t_Tx_tell_21 : List UInt8 := 160 :: 0 :: 8 :: t_Tx_tell_24
abbrev t_Tx_tell_19 : List UInt8 := 16 :: 40 :: t_Tx_tell_21
abbrev t_Tx_tell_16 : List UInt8 := 180 :: 0 :: 252 :: t_Tx_tell_19
abbrev t_Tx_tell_15 : List UInt8 := 42 :: t_Tx_tell_16
abbrev t_Tx_tell_12 : List UInt8 := 156 :: 0 :: 12 :: t_Tx_tell_15
abbrev t_Tx_tell_9 : List UInt8 := 182 :: 0 :: 240 :: t_Tx_tell_12
abbrev t_Tx_tell_8 : List UInt8 := 42 :: t_Tx_tell_9
abbrev t_Tx_tell_5 : List UInt8 := 153 :: 0 :: 19 :: t_Tx_tell_8
abbrev t_Tx_tell_2 : List UInt8 := 182 :: 0 :: 237 :: t_Tx_tell_5
abbrev t_Tx_tell_1 : List UInt8 := 2 :: t_Tx_tell_2
abbrev t_Tx_tell_0 : List UInt8 := 42 :: t_Tx_tell_1
theorem a_Tx_tell_0 : dk_at b_Tx_tell 0 t_Tx_tell_0 := dk_start (by decide +kernel)
theorem a_Tx_tell_1 : dk_at b_Tx_tell 1 t_Tx_tell_1 := dk_go 1 a_Tx_tell_0 rfl
theorem a_Tx_tell_2 : dk_at b_Tx_tell 2 t_Tx_tell_2 := dk_go 1 a_Tx_tell_1 rfl
theorem a_Tx_tell_5 : dk_at b_Tx_tell 5 t_Tx_tell_5 := dk_go 3 a_Tx_tell_2 rfl
theorem a_Tx_tell_8 : dk_at b_Tx_tell 8 t_Tx_tell_8 := dk_go 3 a_Tx_tell_5 rfl
theorem a_Tx_tell_9 : dk_at b_Tx_tell 9 t_Tx_tell_9 := dk_go 1 a_Tx_tell_8 rfl
theorem a_Tx_tell_12 : dk_at b_Tx_tell 12 t_Tx_tell_12 := dk_go 3 a_Tx_tell_9 rfl
theorem a_Tx_tell_15 : dk_at b_Tx_tell 15 t_Tx_tell_15 := dk_go 3 a_Tx_tell_12 rfl
theorem a_Tx_tell_16 : dk_at b_Tx_tell 16 t_Tx_tell_16 := dk_go 1 a_Tx_tell_15 rfl
theorem a_Tx_tell_19 : dk_at b_Tx_tell 19 t_Tx_tell_19 := dk_go 3 a_Tx_tell_16 rfl
theorem a_Tx_tell_21 : dk_at b_Tx_tell 21 t_Tx_tell_21 := dk_go 2 a_Tx_tell_19 rfl
theorem a_Tx_tell_24 : dk_at b_Tx_tell 24 t_Tx_tell_24 := dk_go 3 a_Tx_tell_21 rfl
theorem a_Tx_tell_25 : dk_at b_Tx_tell 25 t_Tx_tell_25 := dk_go 1 a_Tx_tell_24 rfl
theorem a_Tx_tell_28 : dk_at b_Tx_tell 28 t_Tx_tell_28 := dk_go 3 a_Tx_tell_25 rfl
theorem a_Tx_tell_29 : dk_at b_Tx_tell 29 t_Tx_tell_29 := dk_go 1 a_Tx_tell_28 rfl
theorem a_Tx_tell_31 : dk_at b_Tx_tell 31 t_Tx_tell_31 := dk_go 2 a_Tx_tell_29 rfl
theorem a_Tx_tell_32 : dk_at b_Tx_tell 32 t_Tx_tell_32 := dk_go 1 a_Tx_tell_31 rfl
theorem a_Tx_tell_33 : dk_at b_Tx_tell 33 t_Tx_tell_33 := dk_go 1 a_Tx_tell_32 rfl
theorem a_Tx_tell_36 : dk_at b_Tx_tell 36 t_Tx_tell_36 := dk_go 3 a_Tx_tell_33 rfl
theorem a_Tx_tell_37 : dk_at b_Tx_tell 37 t_Tx_tell_37 := dk_go 1 a_Tx_tell_36 rfl
theorem a_Tx_tell_38 : dk_at b_Tx_tell 38 t_Tx_tell_38 := dk_go 1 a_Tx_tell_37 rfl
theorem a_Tx_tell_39 : dk_at b_Tx_tell 39 t_Tx_tell_39 := dk_go 1 a_Tx_tell_38 rfl
theorem a_Tx_tell_42 : dk_at b_Tx_tell 42 t_Tx_tell_42 := dk_go 3 a_Tx_tell_39 rfl
theorem a_Tx_tell_43 : dk_at b_Tx_tell 43 t_Tx_tell_43 := dk_go 1 a_Tx_tell_42 rfl
theorem a_Tx_tell_44 : dk_at b_Tx_tell 44 t_Tx_tell_44 := dk_go 1 a_Tx_tell_43 rfl
theorem a_Tx_tell_45 : dk_at b_Tx_tell 45 t_Tx_tell_45 := dk_go 1 a_Tx_tell_44 rfl
theorem a_Tx_tell_48 : dk_at b_Tx_tell 48 t_Tx_tell_48 := dk_go 3 a_Tx_tell_45 rfl
theorem a_Tx_tell_49 : dk_at b_Tx_tell 49 t_Tx_tell_49 := dk_go 1 a_Tx_tell_48 rfl
theorem a_Tx_tell_50 : dk_at b_Tx_tell 50 t_Tx_tell_50 := dk_go 1 a_Tx_tell_49 rfl
theorem a_Tx_tell_51 : dk_at b_Tx_tell 51 t_Tx_tell_51 := dk_go 1 a_Tx_tell_50 rfl
theorem a_Tx_tell_54 : dk_at b_Tx_tell 54 t_Tx_tell_54 := dk_go 3 a_Tx_tell_51 rfl
theorem a_Tx_tell_57 : dk_at b_Tx_tell 57 t_Tx_tell_57 := dk_go 3 a_Tx_tell_54 rfl
theorem a_Tx_tell_58 : dk_at b_Tx_tell 58 t_Tx_tell_58 := dk_go 1 a_Tx_tell_57 rfl
theorem a_Tx_tell_61 : dk_at b_Tx_tell 61 t_Tx_tell_61 := dk_go 3 a_Tx_tell_58 rfl
theorem a_Tx_tell_63 : dk_at b_Tx_tell 63 t_Tx_tell_63 := dk_go 2 a_Tx_tell_61 rfl
theorem a_Tx_tell_64 : dk_at b_Tx_tell 64 t_Tx_tell_64 := dk_go 1 a_Tx_tell_63 rfl
theorem a_Tx_tell_65 : dk_at b_Tx_tell 65 t_Tx_tell_65 := dk_go 1 a_Tx_tell_64 rfl
theorem a_Tx_tell_66 : dk_at b_Tx_tell 66 t_Tx_tell_66 := dk_go 1 a_Tx_tell_65 rfl
theorem a_Tx_tell_67 : dk_at b_Tx_tell 67 t_Tx_tell_67 := dk_go 1 a_Tx_tell_66 rfl
theorem a_Tx_tell_68 : dk_at b_Tx_tell 68 t_Tx_tell_68 := dk_go 1 a_Tx_tell_67 rfl
theorem a_Tx_tell_71 : dk_at b_Tx_tell 71 t_Tx_tell_71 := dk_go 3 a_Tx_tell_68 rfl
theorem a_Tx_tell_72 : dk_at b_Tx_tell 72 t_Tx_tell_72 := dk_go 1 a_Tx_tell_71 rfl
theorem a_Tx_tell_73 : dk_at b_Tx_tell 73 t_Tx_tell_73 := dk_go 1 a_Tx_tell_72 rfl
theorem a_Tx_tell_76 : dk_at b_Tx_tell 76 t_Tx_tell_76 := dk_go 3 a_Tx_tell_73 rfl
theorem a_Tx_tell_77 : dk_at b_Tx_tell 77 t_Tx_tell_77 := dk_go 1 a_Tx_tell_76 rfl
theorem a_Tx_tell_78 : dk_at b_Tx_tell 78 t_Tx_tell_78 := dk_go 1 a_Tx_tell_77 rfl
theorem a_Tx_tell_79 : dk_at b_Tx_tell 79 t_Tx_tell_79 := dk_go 1 a_Tx_tell_78 rfl
theorem a_Tx_tell_82 : dk_at b_Tx_tell 82 t_Tx_tell_82 := dk_go 3 a_Tx_tell_79 rfl
theorem a_Tx_tell_85 : dk_at b_Tx_tell 85 t_Tx_tell_85 := dk_go 3 a_Tx_tell_82 rfl
theorem a_Tx_tell_86 : dk_at b_Tx_tell 86 t_Tx_tell_86 := dk_go 1 a_Tx_tell_85 rfl
theorem a_Tx_tell_89 : dk_at b_Tx_tell 89 t_Tx_tell_89 := dk_go 3 a_Tx_tell_86 rfl
theorem a_Tx_tell_90 : dk_at b_Tx_tell 90 t_Tx_tell_90 := dk_go 1 a_Tx_tell_89 rfl
theorem a_Tx_tell_91 : dk_at b_Tx_tell 91 t_Tx_tell_91 := dk_go 1 a_Tx_tell_90 rfl
theorem a_Tx_tell_94 : dk_at b_Tx_tell 94 t_Tx_tell_94 := dk_go 3 a_Tx_tell_91 rfl
theorem a_Tx_tell_95 : dk_at b_Tx_tell 95 t_Tx_tell_95 := dk_go 1 a_Tx_tell_94 rfl
theorem a_Tx_tell_98 : dk_at b_Tx_tell 98 t_Tx_tell_98 := dk_go 3 a_Tx_tell_95 rfl
theorem a_Tx_tell_99 : dk_at b_Tx_tell 99 t_Tx_tell_99 := dk_go 1 a_Tx_tell_98 rfl
theorem a_Tx_tell_100 : dk_at b_Tx_tell 100 t_Tx_tell_100 := dk_go 1 a_Tx_tell_99 rfl
theorem a_Tx_tell_101 : dk_at b_Tx_tell 101 t_Tx_tell_101 := dk_go 1 a_Tx_tell_100 rfl
theorem a_Tx_tell_104 : dk_at b_Tx_tell 104 t_Tx_tell_104 := dk_go 3 a_Tx_tell_101 rfl
theorem a_Tx_tell_105 : dk_at b_Tx_tell 105 t_Tx_tell_105 := dk_go 1 a_Tx_tell_104 rfl
theorem a_Tx_tell_106 : dk_at b_Tx_tell 106 t_Tx_tell_106 := dk_go 1 a_Tx_tell_105 rfl
theorem a_Tx_tell_107 : dk_at b_Tx_tell 107 t_Tx_tell_107 := dk_go 1 a_Tx_tell_106 rfl
theorem a_Tx_tell_108 : dk_at b_Tx_tell 108 t_Tx_tell_108 := dk_go 1 a_Tx_tell_107 rfl
theorem a_Tx_tell_111 : dk_at b_Tx_tell 111 t_Tx_tell_111 := dk_go 3 a_Tx_tell_108 rfl
theorem a_Tx_tell_112 : dk_at b_Tx_tell 112 t_Tx_tell_112 := dk_go 1 a_Tx_tell_111 rfl
theorem a_Tx_tell_113 : dk_at b_Tx_tell 113 t_Tx_tell_113 := dk_go 1 a_Tx_tell_112 rfl
theorem a_Tx_tell_114 : dk_at b_Tx_tell 114 t_Tx_tell_114 := dk_go 1 a_Tx_tell_113 rfl
theorem a_Tx_tell_115 : dk_at b_Tx_tell 115 t_Tx_tell_115 := dk_go 1 a_Tx_tell_114 rfl
theorem a_Tx_tell_118 : dk_at b_Tx_tell 118 t_Tx_tell_118 := dk_go 3 a_Tx_tell_115 rfl
theorem a_Tx_tell_119 : dk_at b_Tx_tell 119 t_Tx_tell_119 := dk_go 1 a_Tx_tell_118 rfl
theorem a_Tx_tell_120 : dk_at b_Tx_tell 120 t_Tx_tell_120 := dk_go 1 a_Tx_tell_119 rfl
theorem a_Tx_tell_121 : dk_at b_Tx_tell 121 t_Tx_tell_121 := dk_go 1 a_Tx_tell_120 rfl
theorem a_Tx_tell_122 : dk_at b_Tx_tell 122 t_Tx_tell_122 := dk_go 1 a_Tx_tell_121 rfl
theorem a_Tx_tell_123 : dk_at b_Tx_tell 123 t_Tx_tell_123 := dk_go 1 a_Tx_tell_122 rfl
theorem a_Tx_tell_126 : dk_at b_Tx_tell 126 t_Tx_tell_126 := dk_go 3 a_Tx_tell_123 rfl
theorem a_Tx_tell_127 : dk_at b_Tx_tell 127 t_Tx_tell_127 := dk_go 1 a_Tx_tell_126 rfl
theorem a_Tx_tell_128 : dk_at b_Tx_tell 128 t_Tx_tell_128 := dk_go 1 a_Tx_tell_127 rfl
theorem a_Tx_tell_131 : dk_at b_Tx_tell 131 t_Tx_tell_131 := dk_go 3 a_Tx_tell_128 rfl
theorem a_Tx_tell_132 : dk_at b_Tx_tell 132 t_Tx_tell_132 := dk_go 1 a_Tx_tell_131 rfl
theorem a_Tx_tell_135 : dk_at b_Tx_tell 135 t_Tx_tell_135 := dk_go 3 a_Tx_tell_132 rfl
theorem a_Tx_tell_136 : dk_at b_Tx_tell 136 t_Tx_tell_136 := dk_go 1 a_Tx_tell_135 rfl
theorem a_Tx_tell_137 : dk_at b_Tx_tell 137 t_Tx_tell_137 := dk_go 1 a_Tx_tell_136 rfl
theorem d_Tx_tell_0 : decode b_Tx_tell 0 = .ok (.aload_n 0, 1) := dk_0 a_Tx_tell_0 (dko_42 _)
theorem d_Tx_tell_1 : decode b_Tx_tell 1 = .ok (.iconst (-1), 1) := dk_0 a_Tx_tell_1 (dko_2 _)
theorem d_Tx_tell_2 : decode b_Tx_tell 2 = .ok (.invokevirtual 237, 3) := dk_U2 a_Tx_tell_2 (dko_182 _) rfl
theorem d_Tx_tell_5 : decode b_Tx_tell 5 = .ok (.ifCond .eq 19, 3) := dk_S2 a_Tx_tell_5 (dko_153 _) (by decide +kernel)
theorem d_Tx_tell_8 : decode b_Tx_tell 8 = .ok (.aload_n 0, 1) := dk_0 a_Tx_tell_8 (dko_42 _)
theorem d_Tx_tell_9 : decode b_Tx_tell 9 = .ok (.invokevirtual 240, 3) := dk_U2 a_Tx_tell_9 (dko_182 _) rfl
theorem d_Tx_tell_12 : decode b_Tx_tell 12 = .ok (.ifCond .ge 12, 3) := dk_S2 a_Tx_tell_12 (dko_156 _) (by decide +kernel)
theorem d_Tx_tell_15 : decode b_Tx_tell 15 = .ok (.aload_n 0, 1) := dk_0 a_Tx_tell_15 (dko_42 _)
theorem d_Tx_tell_16 : decode b_Tx_tell 16 = .ok (.getfield 252, 3) := dk_U2 a_Tx_tell_16 (dko_180 _) rfl
theorem d_Tx_tell_19 : decode b_Tx_tell 19 = .ok (.bipush 40, 2) := dk_S1 a_Tx_tell_19 (dko_16 _) (by decide +kernel)
theorem d_Tx_tell_21 : decode b_Tx_tell 21 = .ok (.if_icmp .ne 8, 3) := dk_S2 a_Tx_tell_21 (dko_160 _) (by decide +kernel)
theorem d_Tx_tell_24 : decode b_Tx_tell 24 = .ok (.aload_n 0, 1) := dk_0 a_Tx_tell_24 (dko_42 _)
theorem d_Tx_tell_25 : decode b_Tx_tell 25 = .ok (.invokevirtual 192, 3) := dk_U2 a_Tx_tell_25 (dko_182 _) rfl
theorem d_Tx_tell_28 : decode b_Tx_tell 28 = .ok (.ireturn, 1) := dk_0 a_Tx_tell_28 (dko_172 _)
theorem d_Tx_tell_29 : decode b_Tx_tell 29 = .ok (.bipush 40, 2) := dk_S1 a_Tx_tell_29 (dko_16 _) (by decide +kernel)
theorem d_Tx_tell_31 : decode b_Tx_tell 31 = .ok (.iconst 1, 1) := dk_0 a_Tx_tell_31 (dko_4 _)
theorem d_Tx_tell_32 : decode b_Tx_tell 32 = .ok (.aload_n 0, 1) := dk_0 a_Tx_tell_32 (dko_42 _)
theorem d_Tx_tell_33 : decode b_Tx_tell 33 = .ok (.getfield 186, 3) := dk_U2 a_Tx_tell_33 (dko_180 _) rfl
theorem d_Tx_tell_36 : decode b_Tx_tell 36 = .ok (.isub, 1) := dk_0 a_Tx_tell_36 (dko_100 _)
theorem d_Tx_tell_37 : decode b_Tx_tell 37 = .ok (.imul, 1) := dk_0 a_Tx_tell_37 (dko_104 _)
theorem d_Tx_tell_38 : decode b_Tx_tell 38 = .ok (.aload_n 0, 1) := dk_0 a_Tx_tell_38 (dko_42 _)
theorem d_Tx_tell_39 : decode b_Tx_tell 39 = .ok (.getfield 252, 3) := dk_U2 a_Tx_tell_39 (dko_180 _) rfl
theorem d_Tx_tell_42 : decode b_Tx_tell 42 = .ok (.iadd, 1) := dk_0 a_Tx_tell_42 (dko_96 _)
theorem d_Tx_tell_43 : decode b_Tx_tell 43 = .ok (.istore_n 2, 1) := dk_0 a_Tx_tell_43 (dko_61 _)
theorem d_Tx_tell_44 : decode b_Tx_tell 44 = .ok (.aload_n 0, 1) := dk_0 a_Tx_tell_44 (dko_42 _)
theorem d_Tx_tell_45 : decode b_Tx_tell 45 = .ok (.getfield 69, 3) := dk_U2 a_Tx_tell_45 (dko_180 _) rfl
theorem d_Tx_tell_48 : decode b_Tx_tell 48 = .ok (.istore_n 3, 1) := dk_0 a_Tx_tell_48 (dko_62 _)
theorem d_Tx_tell_49 : decode b_Tx_tell 49 = .ok (.iload_n 3, 1) := dk_0 a_Tx_tell_49 (dko_29 _)
theorem d_Tx_tell_50 : decode b_Tx_tell 50 = .ok (.aload_n 0, 1) := dk_0 a_Tx_tell_50 (dko_42 _)
theorem d_Tx_tell_51 : decode b_Tx_tell 51 = .ok (.getfield 72, 3) := dk_U2 a_Tx_tell_51 (dko_180 _) rfl
theorem d_Tx_tell_54 : decode b_Tx_tell 54 = .ok (.if_icmp .ge 31, 3) := dk_S2 a_Tx_tell_54 (dko_162 _) (by decide +kernel)
theorem d_Tx_tell_57 : decode b_Tx_tell 57 = .ok (.aload_n 0, 1) := dk_0 a_Tx_tell_57 (dko_42 _)
theorem d_Tx_tell_58 : decode b_Tx_tell 58 = .ok (.getfield 41, 3) := dk_U2 a_Tx_tell_58 (dko_180 _) rfl
theorem d_Tx_tell_61 : decode b_Tx_tell 61 = .ok (.bipush 12, 2) := dk_S1 a_Tx_tell_61 (dko_16 _) (by decide +kernel)
theorem d_Tx_tell_63 : decode b_Tx_tell 63 = .ok (.iload_n 2, 1) := dk_0 a_Tx_tell_63 (dko_28 _)
theorem d_Tx_tell_64 : decode b_Tx_tell 64 = .ok (.imul, 1) := dk_0 a_Tx_tell_64 (dko_104 _)
theorem d_Tx_tell_65 : decode b_Tx_tell 65 = .ok (.iload_n 3, 1) := dk_0 a_Tx_tell_65 (dko_29 _)
theorem d_Tx_tell_66 : decode b_Tx_tell 66 = .ok (.iadd, 1) := dk_0 a_Tx_tell_66 (dko_96 _)
theorem d_Tx_tell_67 : decode b_Tx_tell 67 = .ok (.aload_n 0, 1) := dk_0 a_Tx_tell_67 (dko_42 _)
theorem d_Tx_tell_68 : decode b_Tx_tell 68 = .ok (.getfield 69, 3) := dk_U2 a_Tx_tell_68 (dko_180 _) rfl
theorem d_Tx_tell_71 : decode b_Tx_tell 71 = .ok (.isub, 1) := dk_0 a_Tx_tell_71 (dko_100 _)
theorem d_Tx_tell_72 : decode b_Tx_tell 72 = .ok (.aload_n 0, 1) := dk_0 a_Tx_tell_72 (dko_42 _)
theorem d_Tx_tell_73 : decode b_Tx_tell 73 = .ok (.getfield 11, 3) := dk_U2 a_Tx_tell_73 (dko_180 _) rfl
theorem d_Tx_tell_76 : decode b_Tx_tell 76 = .ok (.iload_n 3, 1) := dk_0 a_Tx_tell_76 (dko_29 _)
theorem d_Tx_tell_77 : decode b_Tx_tell 77 = .ok (.baload, 1) := dk_0 a_Tx_tell_77 (dko_51 _)
theorem d_Tx_tell_78 : decode b_Tx_tell 78 = .ok (.bastore, 1) := dk_0 a_Tx_tell_78 (dko_84 _)
theorem d_Tx_tell_79 : decode b_Tx_tell 79 = .ok (.iinc 3 1, 3) := dk_US a_Tx_tell_79 (dko_132 _) (by decide +kernel)
theorem d_Tx_tell_82 : decode b_Tx_tell 82 = .ok (.goto (-33), 3) := dk_S2 a_Tx_tell_82 (dko_167 _) (by decide +kernel)
theorem d_Tx_tell_85 : decode b_Tx_tell 85 = .ok (.aload_n 0, 1) := dk_0 a_Tx_tell_85 (dko_42 _)
theorem d_Tx_tell_86 : decode b_Tx_tell 86 = .ok (.getfield 44, 3) := dk_U2 a_Tx_tell_86 (dko_180 _) rfl
theorem d_Tx_tell_89 : decode b_Tx_tell 89 = .ok (.iload_n 2, 1) := dk_0 a_Tx_tell_89 (dko_28 _)
theorem d_Tx_tell_90 : decode b_Tx_tell 90 = .ok (.aload_n 0, 1) := dk_0 a_Tx_tell_90 (dko_42 _)
theorem d_Tx_tell_91 : decode b_Tx_tell 91 = .ok (.getfield 72, 3) := dk_U2 a_Tx_tell_91 (dko_180 _) rfl
theorem d_Tx_tell_94 : decode b_Tx_tell 94 = .ok (.aload_n 0, 1) := dk_0 a_Tx_tell_94 (dko_42 _)
theorem d_Tx_tell_95 : decode b_Tx_tell 95 = .ok (.getfield 69, 3) := dk_U2 a_Tx_tell_95 (dko_180 _) rfl
theorem d_Tx_tell_98 : decode b_Tx_tell 98 = .ok (.isub, 1) := dk_0 a_Tx_tell_98 (dko_100 _)
theorem d_Tx_tell_99 : decode b_Tx_tell 99 = .ok (.iastore, 1) := dk_0 a_Tx_tell_99 (dko_79 _)
theorem d_Tx_tell_100 : decode b_Tx_tell 100 = .ok (.aload_n 0, 1) := dk_0 a_Tx_tell_100 (dko_42 _)
theorem d_Tx_tell_101 : decode b_Tx_tell 101 = .ok (.getfield 47, 3) := dk_U2 a_Tx_tell_101 (dko_180 _) rfl
theorem d_Tx_tell_104 : decode b_Tx_tell 104 = .ok (.iload_n 2, 1) := dk_0 a_Tx_tell_104 (dko_28 _)
theorem d_Tx_tell_105 : decode b_Tx_tell 105 = .ok (.iload_n 1, 1) := dk_0 a_Tx_tell_105 (dko_27 _)
theorem d_Tx_tell_106 : decode b_Tx_tell 106 = .ok (.iastore, 1) := dk_0 a_Tx_tell_106 (dko_79 _)
theorem d_Tx_tell_107 : decode b_Tx_tell 107 = .ok (.aload_n 0, 1) := dk_0 a_Tx_tell_107 (dko_42 _)
theorem d_Tx_tell_108 : decode b_Tx_tell 108 = .ok (.getfield 50, 3) := dk_U2 a_Tx_tell_108 (dko_180 _) rfl
theorem d_Tx_tell_111 : decode b_Tx_tell 111 = .ok (.iload_n 2, 1) := dk_0 a_Tx_tell_111 (dko_28 _)
theorem d_Tx_tell_112 : decode b_Tx_tell 112 = .ok (.iconst 0, 1) := dk_0 a_Tx_tell_112 (dko_3 _)
theorem d_Tx_tell_113 : decode b_Tx_tell 113 = .ok (.iastore, 1) := dk_0 a_Tx_tell_113 (dko_79 _)
theorem d_Tx_tell_114 : decode b_Tx_tell 114 = .ok (.aload_n 0, 1) := dk_0 a_Tx_tell_114 (dko_42 _)
theorem d_Tx_tell_115 : decode b_Tx_tell 115 = .ok (.getfield 53, 3) := dk_U2 a_Tx_tell_115 (dko_180 _) rfl
theorem d_Tx_tell_118 : decode b_Tx_tell 118 = .ok (.iload_n 2, 1) := dk_0 a_Tx_tell_118 (dko_28 _)
theorem d_Tx_tell_119 : decode b_Tx_tell 119 = .ok (.iconst (-1), 1) := dk_0 a_Tx_tell_119 (dko_2 _)
theorem d_Tx_tell_120 : decode b_Tx_tell 120 = .ok (.iastore, 1) := dk_0 a_Tx_tell_120 (dko_79 _)
theorem d_Tx_tell_121 : decode b_Tx_tell 121 = .ok (.aload_n 0, 1) := dk_0 a_Tx_tell_121 (dko_42 _)
theorem d_Tx_tell_122 : decode b_Tx_tell 122 = .ok (.dup, 1) := dk_0 a_Tx_tell_122 (dko_89 _)
theorem d_Tx_tell_123 : decode b_Tx_tell 123 = .ok (.getfield 252, 3) := dk_U2 a_Tx_tell_123 (dko_180 _) rfl
theorem d_Tx_tell_126 : decode b_Tx_tell 126 = .ok (.iconst 1, 1) := dk_0 a_Tx_tell_126 (dko_4 _)
theorem d_Tx_tell_127 : decode b_Tx_tell 127 = .ok (.iadd, 1) := dk_0 a_Tx_tell_127 (dko_96 _)
theorem d_Tx_tell_128 : decode b_Tx_tell 128 = .ok (.putfield 252, 3) := dk_U2 a_Tx_tell_128 (dko_181 _) rfl
theorem d_Tx_tell_131 : decode b_Tx_tell 131 = .ok (.aload_n 0, 1) := dk_0 a_Tx_tell_131 (dko_42 _)
theorem d_Tx_tell_132 : decode b_Tx_tell 132 = .ok (.getfield 252, 3) := dk_U2 a_Tx_tell_132 (dko_180 _) rfl
theorem d_Tx_tell_135 : decode b_Tx_tell 135 = .ok (.iconst 1, 1) := dk_0 a_Tx_tell_135 (dko_4 _)
theorem d_Tx_tell_136 : decode b_Tx_tell 136 = .ok (.isub, 1) := dk_0 a_Tx_tell_136 (dko_100 _)
theorem d_Tx_tell_137 : decode b_Tx_tell 137 = .ok (.ireturn, 1) := dk_0 a_Tx_tell_137 (dko_172 _)
set_option maxHeartbeats 4000000 in
set_option maxRecDepth 100000 in
theorem ok_Tx_tell (pc : Nat) : OpS mt mi_Tx_tell pc (cs_Tx_tell pc) := (os_n (os_n (os_n (os_n (os_n (os_n (os_l (so_aload_n d_Tx_tell_0 rfl)) (os_l (so_iconst d_Tx_tell_1 (by decide)))) (os_n (os_l (so_callV (iv := mi_Tx_isWord) rfl rfl rfl mw_2239 mw_2241 sl_116 mw_19 mw_2242 ⟨by decide +kernel, by decide +kernel, by decide +kernel⟩ (by decide) d_Tx_tell_2)) (os_n (os_l (so_ifeq d_Tx_tell_5 (by decide))) (os_l (so_aload_n d_Tx_tell_8 rfl))))) (os_n (os_n (os_l (so_callV (iv := mi_Tx_nameOf) rfl rfl rfl mw_2251 mw_2253 sl_119 mw_19 mw_2254 ⟨by decide +kernel, by decide +kernel, by decide +kernel⟩ (by decide) d_Tx_tell_9)) (os_l (so_ifge d_Tx_tell_12 (by decide)))) (os_n (os_l (so_aload_n d_Tx_tell_15 rfl)) (os_n (os_l (so_get (C := R_Tx) (T := F_Tx) (N := 39) (j := 24) in_Tx rfl (by decide) mw_1608 d_Tx_tell_16)) (os_l (so_bipush d_Tx_tell_19 (by decide))))))) (os_n (os_n (os_n (os_l (so_icne d_Tx_tell_21 (by decide))) (os_l (so_aload_n d_Tx_tell_24 rfl))) (os_n (os_l (so_callV (iv := mi_Tx_bad) rfl rfl rfl mw_2255 mw_2257 sl_120 mw_19 mw_2258 ⟨by decide +kernel, by decide +kernel, by decide +kernel⟩ (by decide) d_Tx_tell_25)) (os_n (os_l (so_ireturn rfl d_Tx_tell_28)) (os_l (so_bipush d_Tx_tell_29 (by decide)))))) (os_n (os_n (os_l (so_iconst d_Tx_tell_31 (by decide))) (os_l (so_aload_n d_Tx_tell_32 rfl))) (os_n (os_l (so_get (C := R_Tx) (T := F_Tx) (N := 39) (j := 12) in_Tx rfl (by decide) mw_1591 d_Tx_tell_33)) (os_n (os_l (so_isub d_Tx_tell_36)) (os_l (so_imul d_Tx_tell_37))))))) (os_n (os_n (os_n (os_n (os_l (so_aload_n d_Tx_tell_38 rfl)) (os_l (so_get (C := R_Tx) (T := F_Tx) (N := 39) (j := 24) in_Tx rfl (by decide) mw_1608 d_Tx_tell_39))) (os_n (os_l (so_iadd d_Tx_tell_42)) (os_n (os_l (so_istore_n d_Tx_tell_43 rfl (by decide))) (os_l (so_aload_n d_Tx_tell_44 rfl))))) (os_n (os_n (os_l (so_get (C := R_Tx) (T := F_Tx) (N := 39) (j := 5) in_Tx rfl (by decide) mw_1584 d_Tx_tell_45)) (os_l (so_istore_n d_Tx_tell_48 rfl (by decide)))) (os_n (os_l (so_iload_n d_Tx_tell_49 rfl)) (os_n (os_l (so_aload_n d_Tx_tell_50 rfl)) (os_l (so_get (C := R_Tx) (T := F_Tx) (N := 39) (j := 6) in_Tx rfl (by decide) mw_1585 d_Tx_tell_51)))))) (os_n (os_n (os_n (os_l (so_icge d_Tx_tell_54 (by decide))) (os_l (so_aload_n d_Tx_tell_57 rfl))) (os_n (os_l (so_get (C := R_Tx) (T := F_Tx) (N := 39) (j := 25) in_Tx rfl (by decide) mw_1609 d_Tx_tell_58)) (os_n (os_l (so_bipush d_Tx_tell_61 (by decide))) (os_l (so_iload_n d_Tx_tell_63 rfl))))) (os_n (os_n (os_l (so_imul d_Tx_tell_64)) (os_n (os_l (so_iload_n d_Tx_tell_65 rfl)) (os_l (so_iadd d_Tx_tell_66)))) (os_n (os_l (so_aload_n d_Tx_tell_67 rfl)) (os_n (os_l (so_get (C := R_Tx) (T := F_Tx) (N := 39) (j := 5) in_Tx rfl (by decide) mw_1584 d_Tx_tell_68)) (os_l (so_isub d_Tx_tell_71)))))))) (os_n (os_n (os_n (os_n (os_n (os_l (so_aload_n d_Tx_tell_72 rfl)) (os_l (so_get (C := R_Tx) (T := F_Tx) (N := 39) (j := 0) in_Tx rfl (by decide) mw_1579 d_Tx_tell_73))) (os_n (os_l (so_iload_n d_Tx_tell_76 rfl)) (os_n (os_l (so_baload d_Tx_tell_77)) (os_l (so_bastore d_Tx_tell_78))))) (os_n (os_n (os_l (so_iinc d_Tx_tell_79 (by decide) (by decide))) (os_l (so_goto d_Tx_tell_82 (by decide)))) (os_n (os_l (so_aload_n d_Tx_tell_85 rfl)) (os_n (os_l (so_get (C := R_Tx) (T := F_Tx) (N := 39) (j := 26) in_Tx rfl (by decide) mw_1610 d_Tx_tell_86)) (os_l (so_iload_n d_Tx_tell_89 rfl)))))) (os_n (os_n (os_n (os_l (so_aload_n d_Tx_tell_90 rfl)) (os_l (so_get (C := R_Tx) (T := F_Tx) (N := 39) (j := 6) in_Tx rfl (by decide) mw_1585 d_Tx_tell_91))) (os_n (os_l (so_aload_n d_Tx_tell_94 rfl)) (os_n (os_l (so_get (C := R_Tx) (T := F_Tx) (N := 39) (j := 5) in_Tx rfl (by decide) mw_1584 d_Tx_tell_95)) (os_l (so_isub d_Tx_tell_98))))) (os_n (os_n (os_l (so_iastore d_Tx_tell_99)) (os_n (os_l (so_aload_n d_Tx_tell_100 rfl)) (os_l (so_get (C := R_Tx) (T := F_Tx) (N := 39) (j := 27) in_Tx rfl (by decide) mw_1611 d_Tx_tell_101)))) (os_n (os_l (so_iload_n d_Tx_tell_104 rfl)) (os_n (os_l (so_iload_n d_Tx_tell_105 rfl)) (os_l (so_iastore d_Tx_tell_106))))))) (os_n (os_n (os_n (os_n (os_l (so_aload_n d_Tx_tell_107 rfl)) (os_l (so_get (C := R_Tx) (T := F_Tx) (N := 39) (j := 28) in_Tx rfl (by decide) mw_1613 d_Tx_tell_108))) (os_n (os_l (so_iload_n d_Tx_tell_111 rfl)) (os_n (os_l (so_iconst d_Tx_tell_112 (by decide))) (os_l (so_iastore d_Tx_tell_113))))) (os_n (os_n (os_l (so_aload_n d_Tx_tell_114 rfl)) (os_l (so_get (C := R_Tx) (T := F_Tx) (N := 39) (j := 29) in_Tx rfl (by decide) mw_1614 d_Tx_tell_115))) (os_n (os_l (so_iload_n d_Tx_tell_118 rfl)) (os_n (os_l (so_iconst d_Tx_tell_119 (by decide))) (os_l (so_iastore d_Tx_tell_120)))))) (os_n (os_n (os_n (os_l (so_aload_n d_Tx_tell_121 rfl)) (os_l (so_dup d_Tx_tell_122))) (os_n (os_l (so_get (C := R_Tx) (T := F_Tx) (N := 39) (j := 24) in_Tx rfl (by decide) mw_1608 d_Tx_tell_123)) (os_n (os_l (so_iconst d_Tx_tell_126 (by decide))) (os_l (so_iadd d_Tx_tell_127))))) (os_n (os_n (os_l (so_putI (C := R_Tx) (T := F_Tx) (N := 39) (j := 24) in_Tx t_Tx_ok n_Tx rfl (by decide) mw_1608 rfl (by decide +kernel) d_Tx_tell_128)) (os_n (os_l (so_aload_n d_Tx_tell_131 rfl)) (os_l (so_get (C := R_Tx) (T := F_Tx) (N := 39) (j := 24) in_Tx rfl (by decide) mw_1608 d_Tx_tell_132)))) (os_n (os_l (so_iconst d_Tx_tell_135 (by decide))) (os_n (os_l (so_isub d_Tx_tell_136)) (os_l (so_ireturn rfl d_Tx_tell_137)))))))))
abbrev t_Tx_known_83 : List UInt8 := 172 :: []
abbrev t_Tx_known_82 : List UInt8 := 2 :: t_Tx_known_83
abbrev t_Tx_known_79 : List UInt8 := 167 :: 0 :: 4 :: t_Tx_known_82
abbrev t_Tx_known_78 : List UInt8 := 28 :: t_Tx_known_79
abbrev t_Tx_known_75 : List UInt8 := 153 :: 0 :: 7 :: t_Tx_known_78
abbrev t_Tx_known_72 : List UInt8 := 182 :: 0 :: 182 :: t_Tx_known_75
abbrev t_Tx_known_71 : List UInt8 := 42 :: t_Tx_known_72
abbrev t_Tx_known_70 : List UInt8 := 172 :: t_Tx_known_71
abbrev t_Tx_known_67 : List UInt8 := 182 :: 0 :: 192 :: t_Tx_known_70
abbrev t_Tx_known_66 : List UInt8 := 42 :: t_Tx_known_67
abbrev t_Tx_known_63 : List UInt8 := 156 :: 0 :: 8 :: t_Tx_known_66
abbrev t_Tx_known_62 : List UInt8 := 46 :: t_Tx_known_63
abbrev t_Tx_known_61 : List UInt8 := 96 :: t_Tx_known_62
abbrev t_Tx_known_60 : List UInt8 := 28 :: t_Tx_known_61
abbrev t_Tx_known_59 : List UInt8 := 104 :: t_Tx_known_60
abbrev t_Tx_known_58 : List UInt8 := 100 :: t_Tx_known_59
abbrev t_Tx_known_55 : List UInt8 := 180 :: 0 :: 186 :: t_Tx_known_58
abbrev t_Tx_known_54 : List UInt8 := 42 :: t_Tx_known_55
abbrev t_Tx_known_53 : List UInt8 := 4 :: t_Tx_known_54
abbrev t_Tx_known_51 : List UInt8 := 16 :: 40 :: t_Tx_known_53
abbrev t_Tx_known_48 : List UInt8 := 180 :: 0 :: 53 :: t_Tx_known_51
abbrev t_Tx_known_47 : List UInt8 := 42 :: t_Tx_known_48
abbrev t_Tx_known_44 : List UInt8 := 160 :: 0 :: 27 :: t_Tx_known_47
abbrev t_Tx_known_42 : List UInt8 := 16 :: 24 :: t_Tx_known_44
abbrev t_Tx_known_41 : List UInt8 := 27 :: t_Tx_known_42
abbrev t_Tx_known_38 : List UInt8 := 160 :: 0 :: 28 :: t_Tx_known_41
abbrev t_Tx_known_37 : List UInt8 := 27 :: t_Tx_known_38
abbrev t_Tx_known_36 : List UInt8 := 46 :: t_Tx_known_37
abbrev t_Tx_known_35 : List UInt8 := 96 :: t_Tx_known_36
abbrev t_Tx_known_34 : List UInt8 := 28 :: t_Tx_known_35
abbrev t_Tx_known_33 : List UInt8 := 104 :: t_Tx_known_34
abbrev t_Tx_known_32 : List UInt8 := 100 :: t_Tx_known_33
abbrev t_Tx_known_29 : List UInt8 := 180 :: 0 :: 186 :: t_Tx_known_32
abbrev t_Tx_known_28 : List UInt8 := 42 :: t_Tx_known_29
abbrev t_Tx_known_27 : List UInt8 := 4 :: t_Tx_known_28
abbrev t_Tx_known_25 : List UInt8 := 16 :: 40 :: t_Tx_known_27
abbrev t_Tx_known_22 : List UInt8 := 180 :: 0 :: 47 :: t_Tx_known_25
abbrev t_Tx_known_21 : List UInt8 := 42 :: t_Tx_known_22
abbrev t_Tx_known_18 : List UInt8 := 155 :: 0 :: 48 :: t_Tx_known_21
abbrev t_Tx_known_17 : List UInt8 := 28 :: t_Tx_known_18
abbrev t_Tx_known_16 : List UInt8 := 61 :: t_Tx_known_17
abbrev t_Tx_known_15 : List UInt8 := 2 :: t_Tx_known_16
abbrev t_Tx_known_12 : List UInt8 := 167 :: 0 :: 4 :: t_Tx_known_15
abbrev t_Tx_known_9 : List UInt8 := 182 :: 0 :: 240 :: t_Tx_known_12
abbrev t_Tx_known_8 : List UInt8 := 42 :: t_Tx_known_9
abbrev t_Tx_known_5 : List UInt8 := 153 :: 0 :: 10 :: t_Tx_known_8
abbrev t_Tx_known_2 : List UInt8 := 182 :: 0 :: 237 :: t_Tx_known_5
abbrev t_Tx_known_1 : List UInt8 := 2 :: t_Tx_known_2
abbrev t_Tx_known_0 : List UInt8 := 42 :: t_Tx_known_1
theorem a_Tx_known_0 : dk_at b_Tx_known 0 t_Tx_known_0 := dk_start (by decide +kernel)
theorem a_Tx_known_1 : dk_at b_Tx_known 1 t_Tx_known_1 := dk_go 1 a_Tx_known_0 rfl
theorem a_Tx_known_2 : dk_at b_Tx_known 2 t_Tx_known_2 := dk_go 1 a_Tx_known_1 rfl
theorem a_Tx_known_5 : dk_at b_Tx_known 5 t_Tx_known_5 := dk_go 3 a_Tx_known_2 rfl
theorem a_Tx_known_8 : dk_at b_Tx_known 8 t_Tx_known_8 := dk_go 3 a_Tx_known_5 rfl
theorem a_Tx_known_9 : dk_at b_Tx_known 9 t_Tx_known_9 := dk_go 1 a_Tx_known_8 rfl
theorem a_Tx_known_12 : dk_at b_Tx_known 12 t_Tx_known_12 := dk_go 3 a_Tx_known_9 rfl
theorem a_Tx_known_15 : dk_at b_Tx_known 15 t_Tx_known_15 := dk_go 3 a_Tx_known_12 rfl
theorem a_Tx_known_16 : dk_at b_Tx_known 16 t_Tx_known_16 := dk_go 1 a_Tx_known_15 rfl
theorem a_Tx_known_17 : dk_at b_Tx_known 17 t_Tx_known_17 := dk_go 1 a_Tx_known_16 rfl
theorem a_Tx_known_18 : dk_at b_Tx_known 18 t_Tx_known_18 := dk_go 1 a_Tx_known_17 rfl
theorem a_Tx_known_21 : dk_at b_Tx_known 21 t_Tx_known_21 := dk_go 3 a_Tx_known_18 rfl
theorem a_Tx_known_22 : dk_at b_Tx_known 22 t_Tx_known_22 := dk_go 1 a_Tx_known_21 rfl
theorem a_Tx_known_25 : dk_at b_Tx_known 25 t_Tx_known_25 := dk_go 3 a_Tx_known_22 rfl
theorem a_Tx_known_27 : dk_at b_Tx_known 27 t_Tx_known_27 := dk_go 2 a_Tx_known_25 rfl
theorem a_Tx_known_28 : dk_at b_Tx_known 28 t_Tx_known_28 := dk_go 1 a_Tx_known_27 rfl
theorem a_Tx_known_29 : dk_at b_Tx_known 29 t_Tx_known_29 := dk_go 1 a_Tx_known_28 rfl
theorem a_Tx_known_32 : dk_at b_Tx_known 32 t_Tx_known_32 := dk_go 3 a_Tx_known_29 rfl
theorem a_Tx_known_33 : dk_at b_Tx_known 33 t_Tx_known_33 := dk_go 1 a_Tx_known_32 rfl
theorem a_Tx_known_34 : dk_at b_Tx_known 34 t_Tx_known_34 := dk_go 1 a_Tx_known_33 rfl
theorem a_Tx_known_35 : dk_at b_Tx_known 35 t_Tx_known_35 := dk_go 1 a_Tx_known_34 rfl
theorem a_Tx_known_36 : dk_at b_Tx_known 36 t_Tx_known_36 := dk_go 1 a_Tx_known_35 rfl
theorem a_Tx_known_37 : dk_at b_Tx_known 37 t_Tx_known_37 := dk_go 1 a_Tx_known_36 rfl
theorem a_Tx_known_38 : dk_at b_Tx_known 38 t_Tx_known_38 := dk_go 1 a_Tx_known_37 rfl
theorem a_Tx_known_41 : dk_at b_Tx_known 41 t_Tx_known_41 := dk_go 3 a_Tx_known_38 rfl
theorem a_Tx_known_42 : dk_at b_Tx_known 42 t_Tx_known_42 := dk_go 1 a_Tx_known_41 rfl
theorem a_Tx_known_44 : dk_at b_Tx_known 44 t_Tx_known_44 := dk_go 2 a_Tx_known_42 rfl
theorem a_Tx_known_47 : dk_at b_Tx_known 47 t_Tx_known_47 := dk_go 3 a_Tx_known_44 rfl
theorem a_Tx_known_48 : dk_at b_Tx_known 48 t_Tx_known_48 := dk_go 1 a_Tx_known_47 rfl
theorem a_Tx_known_51 : dk_at b_Tx_known 51 t_Tx_known_51 := dk_go 3 a_Tx_known_48 rfl
theorem a_Tx_known_53 : dk_at b_Tx_known 53 t_Tx_known_53 := dk_go 2 a_Tx_known_51 rfl
theorem a_Tx_known_54 : dk_at b_Tx_known 54 t_Tx_known_54 := dk_go 1 a_Tx_known_53 rfl
theorem a_Tx_known_55 : dk_at b_Tx_known 55 t_Tx_known_55 := dk_go 1 a_Tx_known_54 rfl
theorem a_Tx_known_58 : dk_at b_Tx_known 58 t_Tx_known_58 := dk_go 3 a_Tx_known_55 rfl
theorem a_Tx_known_59 : dk_at b_Tx_known 59 t_Tx_known_59 := dk_go 1 a_Tx_known_58 rfl
theorem a_Tx_known_60 : dk_at b_Tx_known 60 t_Tx_known_60 := dk_go 1 a_Tx_known_59 rfl
theorem a_Tx_known_61 : dk_at b_Tx_known 61 t_Tx_known_61 := dk_go 1 a_Tx_known_60 rfl
theorem a_Tx_known_62 : dk_at b_Tx_known 62 t_Tx_known_62 := dk_go 1 a_Tx_known_61 rfl
theorem a_Tx_known_63 : dk_at b_Tx_known 63 t_Tx_known_63 := dk_go 1 a_Tx_known_62 rfl
theorem a_Tx_known_66 : dk_at b_Tx_known 66 t_Tx_known_66 := dk_go 3 a_Tx_known_63 rfl
theorem a_Tx_known_67 : dk_at b_Tx_known 67 t_Tx_known_67 := dk_go 1 a_Tx_known_66 rfl
theorem a_Tx_known_70 : dk_at b_Tx_known 70 t_Tx_known_70 := dk_go 3 a_Tx_known_67 rfl
theorem a_Tx_known_71 : dk_at b_Tx_known 71 t_Tx_known_71 := dk_go 1 a_Tx_known_70 rfl
theorem a_Tx_known_72 : dk_at b_Tx_known 72 t_Tx_known_72 := dk_go 1 a_Tx_known_71 rfl
theorem a_Tx_known_75 : dk_at b_Tx_known 75 t_Tx_known_75 := dk_go 3 a_Tx_known_72 rfl
theorem a_Tx_known_78 : dk_at b_Tx_known 78 t_Tx_known_78 := dk_go 3 a_Tx_known_75 rfl
theorem a_Tx_known_79 : dk_at b_Tx_known 79 t_Tx_known_79 := dk_go 1 a_Tx_known_78 rfl
theorem a_Tx_known_82 : dk_at b_Tx_known 82 t_Tx_known_82 := dk_go 3 a_Tx_known_79 rfl
theorem a_Tx_known_83 : dk_at b_Tx_known 83 t_Tx_known_83 := dk_go 1 a_Tx_known_82 rfl
theorem d_Tx_known_0 : decode b_Tx_known 0 = .ok (.aload_n 0, 1) := dk_0 a_Tx_known_0 (dko_42 _)
theorem d_Tx_known_1 : decode b_Tx_known 1 = .ok (.iconst (-1), 1) := dk_0 a_Tx_known_1 (dko_2 _)
theorem d_Tx_known_2 : decode b_Tx_known 2 = .ok (.invokevirtual 237, 3) := dk_U2 a_Tx_known_2 (dko_182 _) rfl
theorem d_Tx_known_5 : decode b_Tx_known 5 = .ok (.ifCond .eq 10, 3) := dk_S2 a_Tx_known_5 (dko_153 _) (by decide +kernel)
theorem d_Tx_known_8 : decode b_Tx_known 8 = .ok (.aload_n 0, 1) := dk_0 a_Tx_known_8 (dko_42 _)
theorem d_Tx_known_9 : decode b_Tx_known 9 = .ok (.invokevirtual 240, 3) := dk_U2 a_Tx_known_9 (dko_182 _) rfl
theorem d_Tx_known_12 : decode b_Tx_known 12 = .ok (.goto 4, 3) := dk_S2 a_Tx_known_12 (dko_167 _) (by decide +kernel)
theorem d_Tx_known_15 : decode b_Tx_known 15 = .ok (.iconst (-1), 1) := dk_0 a_Tx_known_15 (dko_2 _)
theorem d_Tx_known_16 : decode b_Tx_known 16 = .ok (.istore_n 2, 1) := dk_0 a_Tx_known_16 (dko_61 _)
theorem d_Tx_known_17 : decode b_Tx_known 17 = .ok (.iload_n 2, 1) := dk_0 a_Tx_known_17 (dko_28 _)
theorem d_Tx_known_18 : decode b_Tx_known 18 = .ok (.ifCond .lt 48, 3) := dk_S2 a_Tx_known_18 (dko_155 _) (by decide +kernel)
theorem d_Tx_known_21 : decode b_Tx_known 21 = .ok (.aload_n 0, 1) := dk_0 a_Tx_known_21 (dko_42 _)
theorem d_Tx_known_22 : decode b_Tx_known 22 = .ok (.getfield 47, 3) := dk_U2 a_Tx_known_22 (dko_180 _) rfl
theorem d_Tx_known_25 : decode b_Tx_known 25 = .ok (.bipush 40, 2) := dk_S1 a_Tx_known_25 (dko_16 _) (by decide +kernel)
theorem d_Tx_known_27 : decode b_Tx_known 27 = .ok (.iconst 1, 1) := dk_0 a_Tx_known_27 (dko_4 _)
theorem d_Tx_known_28 : decode b_Tx_known 28 = .ok (.aload_n 0, 1) := dk_0 a_Tx_known_28 (dko_42 _)
theorem d_Tx_known_29 : decode b_Tx_known 29 = .ok (.getfield 186, 3) := dk_U2 a_Tx_known_29 (dko_180 _) rfl
theorem d_Tx_known_32 : decode b_Tx_known 32 = .ok (.isub, 1) := dk_0 a_Tx_known_32 (dko_100 _)
theorem d_Tx_known_33 : decode b_Tx_known 33 = .ok (.imul, 1) := dk_0 a_Tx_known_33 (dko_104 _)
theorem d_Tx_known_34 : decode b_Tx_known 34 = .ok (.iload_n 2, 1) := dk_0 a_Tx_known_34 (dko_28 _)
theorem d_Tx_known_35 : decode b_Tx_known 35 = .ok (.iadd, 1) := dk_0 a_Tx_known_35 (dko_96 _)
theorem d_Tx_known_36 : decode b_Tx_known 36 = .ok (.iaload, 1) := dk_0 a_Tx_known_36 (dko_46 _)
theorem d_Tx_known_37 : decode b_Tx_known 37 = .ok (.iload_n 1, 1) := dk_0 a_Tx_known_37 (dko_27 _)
theorem d_Tx_known_38 : decode b_Tx_known 38 = .ok (.if_icmp .ne 28, 3) := dk_S2 a_Tx_known_38 (dko_160 _) (by decide +kernel)
theorem d_Tx_known_41 : decode b_Tx_known 41 = .ok (.iload_n 1, 1) := dk_0 a_Tx_known_41 (dko_27 _)
theorem d_Tx_known_42 : decode b_Tx_known 42 = .ok (.bipush 24, 2) := dk_S1 a_Tx_known_42 (dko_16 _) (by decide +kernel)
theorem d_Tx_known_44 : decode b_Tx_known 44 = .ok (.if_icmp .ne 27, 3) := dk_S2 a_Tx_known_44 (dko_160 _) (by decide +kernel)
theorem d_Tx_known_47 : decode b_Tx_known 47 = .ok (.aload_n 0, 1) := dk_0 a_Tx_known_47 (dko_42 _)
theorem d_Tx_known_48 : decode b_Tx_known 48 = .ok (.getfield 53, 3) := dk_U2 a_Tx_known_48 (dko_180 _) rfl
theorem d_Tx_known_51 : decode b_Tx_known 51 = .ok (.bipush 40, 2) := dk_S1 a_Tx_known_51 (dko_16 _) (by decide +kernel)
theorem d_Tx_known_53 : decode b_Tx_known 53 = .ok (.iconst 1, 1) := dk_0 a_Tx_known_53 (dko_4 _)
theorem d_Tx_known_54 : decode b_Tx_known 54 = .ok (.aload_n 0, 1) := dk_0 a_Tx_known_54 (dko_42 _)
theorem d_Tx_known_55 : decode b_Tx_known 55 = .ok (.getfield 186, 3) := dk_U2 a_Tx_known_55 (dko_180 _) rfl
theorem d_Tx_known_58 : decode b_Tx_known 58 = .ok (.isub, 1) := dk_0 a_Tx_known_58 (dko_100 _)
theorem d_Tx_known_59 : decode b_Tx_known 59 = .ok (.imul, 1) := dk_0 a_Tx_known_59 (dko_104 _)
theorem d_Tx_known_60 : decode b_Tx_known 60 = .ok (.iload_n 2, 1) := dk_0 a_Tx_known_60 (dko_28 _)
theorem d_Tx_known_61 : decode b_Tx_known 61 = .ok (.iadd, 1) := dk_0 a_Tx_known_61 (dko_96 _)
theorem d_Tx_known_62 : decode b_Tx_known 62 = .ok (.iaload, 1) := dk_0 a_Tx_known_62 (dko_46 _)
theorem d_Tx_known_63 : decode b_Tx_known 63 = .ok (.ifCond .ge 8, 3) := dk_S2 a_Tx_known_63 (dko_156 _) (by decide +kernel)
theorem d_Tx_known_66 : decode b_Tx_known 66 = .ok (.aload_n 0, 1) := dk_0 a_Tx_known_66 (dko_42 _)
theorem d_Tx_known_67 : decode b_Tx_known 67 = .ok (.invokevirtual 192, 3) := dk_U2 a_Tx_known_67 (dko_182 _) rfl
theorem d_Tx_known_70 : decode b_Tx_known 70 = .ok (.ireturn, 1) := dk_0 a_Tx_known_70 (dko_172 _)
theorem d_Tx_known_71 : decode b_Tx_known 71 = .ok (.aload_n 0, 1) := dk_0 a_Tx_known_71 (dko_42 _)
theorem d_Tx_known_72 : decode b_Tx_known 72 = .ok (.invokevirtual 182, 3) := dk_U2 a_Tx_known_72 (dko_182 _) rfl
theorem d_Tx_known_75 : decode b_Tx_known 75 = .ok (.ifCond .eq 7, 3) := dk_S2 a_Tx_known_75 (dko_153 _) (by decide +kernel)
theorem d_Tx_known_78 : decode b_Tx_known 78 = .ok (.iload_n 2, 1) := dk_0 a_Tx_known_78 (dko_28 _)
theorem d_Tx_known_79 : decode b_Tx_known 79 = .ok (.goto 4, 3) := dk_S2 a_Tx_known_79 (dko_167 _) (by decide +kernel)
theorem d_Tx_known_82 : decode b_Tx_known 82 = .ok (.iconst (-1), 1) := dk_0 a_Tx_known_82 (dko_2 _)
theorem d_Tx_known_83 : decode b_Tx_known 83 = .ok (.ireturn, 1) := dk_0 a_Tx_known_83 (dko_172 _)
set_option maxHeartbeats 4000000 in
set_option maxRecDepth 100000 in
theorem ok_Tx_known (pc : Nat) : OpS mt mi_Tx_known pc (cs_Tx_known pc) := (os_n (os_n (os_n (os_n (os_n (os_l (so_aload_n d_Tx_known_0 rfl)) (os_n (os_l (so_iconst d_Tx_known_1 (by decide))) (os_l (so_callV (iv := mi_Tx_isWord) rfl rfl rfl mw_2239 mw_2241 sl_116 mw_19 mw_2242 ⟨by decide +kernel, by decide +kernel, by decide +kernel⟩ (by decide) d_Tx_known_2)))) (os_n (os_l (so_ifeq d_Tx_known_5 (by decide))) (os_n (os_l (so_aload_n d_Tx_known_8 rfl)) (os_l (so_callV (iv := mi_Tx_nameOf) rfl rfl rfl mw_2251 mw_2253 sl_119 mw_19 mw_2254 ⟨by decide +kernel, by decide +kernel, by decide +kernel⟩ (by decide) d_Tx_known_9))))) (os_n (os_n (os_l (so_goto d_Tx_known_12 (by decide))) (os_n (os_l (so_iconst d_Tx_known_15 (by decide))) (os_l (so_istore_n d_Tx_known_16 rfl (by decide))))) (os_n (os_l (so_iload_n d_Tx_known_17 rfl)) (os_n (os_l (so_iflt d_Tx_known_18 (by decide))) (os_l (so_aload_n d_Tx_known_21 rfl)))))) (os_n (os_n (os_n (os_l (so_get (C := R_Tx) (T := F_Tx) (N := 39) (j := 27) in_Tx rfl (by decide) mw_1611 d_Tx_known_22)) (os_n (os_l (so_bipush d_Tx_known_25 (by decide))) (os_l (so_iconst d_Tx_known_27 (by decide))))) (os_n (os_l (so_aload_n d_Tx_known_28 rfl)) (os_n (os_l (so_get (C := R_Tx) (T := F_Tx) (N := 39) (j := 12) in_Tx rfl (by decide) mw_1591 d_Tx_known_29)) (os_l (so_isub d_Tx_known_32))))) (os_n (os_n (os_l (so_imul d_Tx_known_33)) (os_n (os_l (so_iload_n d_Tx_known_34 rfl)) (os_l (so_iadd d_Tx_known_35)))) (os_n (os_l (so_iaload d_Tx_known_36)) (os_n (os_l (so_iload_n d_Tx_known_37 rfl)) (os_l (so_icne d_Tx_known_38 (by decide)))))))) (os_n (os_n (os_n (os_n (os_l (so_iload_n d_Tx_known_41 rfl)) (os_n (os_l (so_bipush d_Tx_known_42 (by decide))) (os_l (so_icne d_Tx_known_44 (by decide))))) (os_n (os_l (so_aload_n d_Tx_known_47 rfl)) (os_n (os_l (so_get (C := R_Tx) (T := F_Tx) (N := 39) (j := 29) in_Tx rfl (by decide) mw_1614 d_Tx_known_48)) (os_l (so_bipush d_Tx_known_51 (by decide)))))) (os_n (os_n (os_l (so_iconst d_Tx_known_53 (by decide))) (os_n (os_l (so_aload_n d_Tx_known_54 rfl)) (os_l (so_get (C := R_Tx) (T := F_Tx) (N := 39) (j := 12) in_Tx rfl (by decide) mw_1591 d_Tx_known_55)))) (os_n (os_l (so_isub d_Tx_known_58)) (os_n (os_l (so_imul d_Tx_known_59)) (os_l (so_iload_n d_Tx_known_60 rfl)))))) (os_n (os_n (os_n (os_l (so_iadd d_Tx_known_61)) (os_n (os_l (so_iaload d_Tx_known_62)) (os_l (so_ifge d_Tx_known_63 (by decide))))) (os_n (os_l (so_aload_n d_Tx_known_66 rfl)) (os_n (os_l (so_callV (iv := mi_Tx_bad) rfl rfl rfl mw_2255 mw_2257 sl_120 mw_19 mw_2258 ⟨by decide +kernel, by decide +kernel, by decide +kernel⟩ (by decide) d_Tx_known_67)) (os_l (so_ireturn rfl d_Tx_known_70))))) (os_n (os_n (os_l (so_aload_n d_Tx_known_71 rfl)) (os_n (os_l (so_callV (iv := mi_Tx_go) rfl rfl rfl mw_2182 mw_2184 sl_111 mw_19 mw_2185 ⟨by decide +kernel, by decide +kernel, by decide +kernel⟩ (by decide) d_Tx_known_72)) (os_l (so_ifeq d_Tx_known_75 (by decide))))) (os_n (os_n (os_l (so_iload_n d_Tx_known_78 rfl)) (os_l (so_goto d_Tx_known_79 (by decide)))) (os_n (os_l (so_iconst d_Tx_known_82 (by decide))) (os_l (so_ireturn rfl d_Tx_known_83))))))))
abbrev t_Tx_block_111 : List UInt8 := 172 :: []
abbrev t_Tx_block_110 : List UInt8 := 2 :: t_Tx_block_111
abbrev t_Tx_block_107 : List UInt8 := 167 :: 0 :: 4 :: t_Tx_block_110
abbrev t_Tx_block_104 : List UInt8 := 182 :: 0 :: 208 :: t_Tx_block_107
abbrev t_Tx_block_103 : List UInt8 := 28 :: t_Tx_block_104
abbrev t_Tx_block_102 : List UInt8 := 2 :: t_Tx_block_103
abbrev t_Tx_block_101 : List UInt8 := 27 :: t_Tx_block_102
abbrev t_Tx_block_100 : List UInt8 := 9 :: t_Tx_block_101
abbrev t_Tx_block_98 : List UInt8 := 16 :: 23 :: t_Tx_block_100
abbrev t_Tx_block_97 : List UInt8 := 42 :: t_Tx_block_98
abbrev t_Tx_block_94 : List UInt8 := 153 :: 0 :: 16 :: t_Tx_block_97
abbrev t_Tx_block_91 : List UInt8 := 182 :: 0 :: 182 :: t_Tx_block_94
abbrev t_Tx_block_90 : List UInt8 := 42 :: t_Tx_block_91
abbrev t_Tx_block_87 : List UInt8 := 181 :: 0 :: 228 :: t_Tx_block_90
abbrev t_Tx_block_86 : List UInt8 := 100 :: t_Tx_block_87
abbrev t_Tx_block_85 : List UInt8 := 4 :: t_Tx_block_86
abbrev t_Tx_block_82 : List UInt8 := 180 :: 0 :: 228 :: t_Tx_block_85
abbrev t_Tx_block_81 : List UInt8 := 89 :: t_Tx_block_82
abbrev t_Tx_block_80 : List UInt8 := 42 :: t_Tx_block_81
abbrev t_Tx_block_77 : List UInt8 := 167 :: 255 :: 231 :: t_Tx_block_80
abbrev t_Tx_block_74 : List UInt8 := 182 :: 0 :: 204 :: t_Tx_block_77
abbrev t_Tx_block_73 : List UInt8 := 29 :: t_Tx_block_74
abbrev t_Tx_block_72 : List UInt8 := 42 :: t_Tx_block_73
abbrev t_Tx_block_71 : List UInt8 := 172 :: t_Tx_block_72
abbrev t_Tx_block_70 : List UInt8 := 2 :: t_Tx_block_71
abbrev t_Tx_block_67 : List UInt8 := 156 :: 0 :: 5 :: t_Tx_block_70
abbrev t_Tx_block_66 : List UInt8 := 29 :: t_Tx_block_67
abbrev t_Tx_block_65 : List UInt8 := 62 :: t_Tx_block_66
abbrev t_Tx_block_62 : List UInt8 := 182 :: 0 :: 255 :: t_Tx_block_65
abbrev t_Tx_block_61 : List UInt8 := 42 :: t_Tx_block_62
abbrev t_Tx_block_58 : List UInt8 := 159 :: 0 :: 22 :: t_Tx_block_61
abbrev t_Tx_block_56 : List UInt8 := 16 :: 125 :: t_Tx_block_58
abbrev t_Tx_block_53 : List UInt8 := 180 :: 0 :: 146 :: t_Tx_block_56
abbrev t_Tx_block_52 : List UInt8 := 42 :: t_Tx_block_53
abbrev t_Tx_block_51 : List UInt8 := 172 :: t_Tx_block_52
abbrev t_Tx_block_50 : List UInt8 := 2 :: t_Tx_block_51
abbrev t_Tx_block_47 : List UInt8 := 154 :: 0 :: 5 :: t_Tx_block_50
abbrev t_Tx_block_44 : List UInt8 := 182 :: 0 :: 182 :: t_Tx_block_47
abbrev t_Tx_block_43 : List UInt8 := 42 :: t_Tx_block_44
abbrev t_Tx_block_42 : List UInt8 := 61 :: t_Tx_block_43
abbrev t_Tx_block_39 : List UInt8 := 180 :: 0 :: 201 :: t_Tx_block_42
abbrev t_Tx_block_38 : List UInt8 := 42 :: t_Tx_block_39
abbrev t_Tx_block_35 : List UInt8 := 181 :: 0 :: 228 :: t_Tx_block_38
abbrev t_Tx_block_34 : List UInt8 := 96 :: t_Tx_block_35
abbrev t_Tx_block_33 : List UInt8 := 4 :: t_Tx_block_34
abbrev t_Tx_block_30 : List UInt8 := 180 :: 0 :: 228 :: t_Tx_block_33
abbrev t_Tx_block_29 : List UInt8 := 89 :: t_Tx_block_30
abbrev t_Tx_block_28 : List UInt8 := 42 :: t_Tx_block_29
abbrev t_Tx_block_27 : List UInt8 := 172 :: t_Tx_block_28
abbrev t_Tx_block_24 : List UInt8 := 182 :: 0 :: 192 :: t_Tx_block_27
abbrev t_Tx_block_23 : List UInt8 := 42 :: t_Tx_block_24
abbrev t_Tx_block_20 : List UInt8 := 160 :: 0 :: 8 :: t_Tx_block_23
abbrev t_Tx_block_18 : List UInt8 := 16 :: 20 :: t_Tx_block_20
abbrev t_Tx_block_15 : List UInt8 := 180 :: 0 :: 228 :: t_Tx_block_18
abbrev t_Tx_block_14 : List UInt8 := 42 :: t_Tx_block_15
abbrev t_Tx_block_11 : List UInt8 := 160 :: 0 :: 12 :: t_Tx_block_14
abbrev t_Tx_block_9 : List UInt8 := 16 :: 123 :: t_Tx_block_11
abbrev t_Tx_block_6 : List UInt8 := 180 :: 0 :: 146 :: t_Tx_block_9
abbrev t_Tx_block_5 : List UInt8 := 42 :: t_Tx_block_6
abbrev t_Tx_block_4 : List UInt8 := 60 :: t_Tx_block_5
abbrev t_Tx_block_1 : List UInt8 := 180 :: 0 :: 143 :: t_Tx_block_4
abbrev t_Tx_block_0 : List UInt8 := 42 :: t_Tx_block_1
theorem a_Tx_block_0 : dk_at b_Tx_block 0 t_Tx_block_0 := dk_start (by decide +kernel)
theorem a_Tx_block_1 : dk_at b_Tx_block 1 t_Tx_block_1 := dk_go 1 a_Tx_block_0 rfl
theorem a_Tx_block_4 : dk_at b_Tx_block 4 t_Tx_block_4 := dk_go 3 a_Tx_block_1 rfl
theorem a_Tx_block_5 : dk_at b_Tx_block 5 t_Tx_block_5 := dk_go 1 a_Tx_block_4 rfl
theorem a_Tx_block_6 : dk_at b_Tx_block 6 t_Tx_block_6 := dk_go 1 a_Tx_block_5 rfl
theorem a_Tx_block_9 : dk_at b_Tx_block 9 t_Tx_block_9 := dk_go 3 a_Tx_block_6 rfl
theorem a_Tx_block_11 : dk_at b_Tx_block 11 t_Tx_block_11 := dk_go 2 a_Tx_block_9 rfl
theorem a_Tx_block_14 : dk_at b_Tx_block 14 t_Tx_block_14 := dk_go 3 a_Tx_block_11 rfl
theorem a_Tx_block_15 : dk_at b_Tx_block 15 t_Tx_block_15 := dk_go 1 a_Tx_block_14 rfl
theorem a_Tx_block_18 : dk_at b_Tx_block 18 t_Tx_block_18 := dk_go 3 a_Tx_block_15 rfl
theorem a_Tx_block_20 : dk_at b_Tx_block 20 t_Tx_block_20 := dk_go 2 a_Tx_block_18 rfl
theorem a_Tx_block_23 : dk_at b_Tx_block 23 t_Tx_block_23 := dk_go 3 a_Tx_block_20 rfl
theorem a_Tx_block_24 : dk_at b_Tx_block 24 t_Tx_block_24 := dk_go 1 a_Tx_block_23 rfl
theorem a_Tx_block_27 : dk_at b_Tx_block 27 t_Tx_block_27 := dk_go 3 a_Tx_block_24 rfl
theorem a_Tx_block_28 : dk_at b_Tx_block 28 t_Tx_block_28 := dk_go 1 a_Tx_block_27 rfl
theorem a_Tx_block_29 : dk_at b_Tx_block 29 t_Tx_block_29 := dk_go 1 a_Tx_block_28 rfl
theorem a_Tx_block_30 : dk_at b_Tx_block 30 t_Tx_block_30 := dk_go 1 a_Tx_block_29 rfl
theorem a_Tx_block_33 : dk_at b_Tx_block 33 t_Tx_block_33 := dk_go 3 a_Tx_block_30 rfl
theorem a_Tx_block_34 : dk_at b_Tx_block 34 t_Tx_block_34 := dk_go 1 a_Tx_block_33 rfl
theorem a_Tx_block_35 : dk_at b_Tx_block 35 t_Tx_block_35 := dk_go 1 a_Tx_block_34 rfl
theorem a_Tx_block_38 : dk_at b_Tx_block 38 t_Tx_block_38 := dk_go 3 a_Tx_block_35 rfl
theorem a_Tx_block_39 : dk_at b_Tx_block 39 t_Tx_block_39 := dk_go 1 a_Tx_block_38 rfl
theorem a_Tx_block_42 : dk_at b_Tx_block 42 t_Tx_block_42 := dk_go 3 a_Tx_block_39 rfl
theorem a_Tx_block_43 : dk_at b_Tx_block 43 t_Tx_block_43 := dk_go 1 a_Tx_block_42 rfl
theorem a_Tx_block_44 : dk_at b_Tx_block 44 t_Tx_block_44 := dk_go 1 a_Tx_block_43 rfl
theorem a_Tx_block_47 : dk_at b_Tx_block 47 t_Tx_block_47 := dk_go 3 a_Tx_block_44 rfl
theorem a_Tx_block_50 : dk_at b_Tx_block 50 t_Tx_block_50 := dk_go 3 a_Tx_block_47 rfl
theorem a_Tx_block_51 : dk_at b_Tx_block 51 t_Tx_block_51 := dk_go 1 a_Tx_block_50 rfl
theorem a_Tx_block_52 : dk_at b_Tx_block 52 t_Tx_block_52 := dk_go 1 a_Tx_block_51 rfl
theorem a_Tx_block_53 : dk_at b_Tx_block 53 t_Tx_block_53 := dk_go 1 a_Tx_block_52 rfl
theorem a_Tx_block_56 : dk_at b_Tx_block 56 t_Tx_block_56 := dk_go 3 a_Tx_block_53 rfl
theorem a_Tx_block_58 : dk_at b_Tx_block 58 t_Tx_block_58 := dk_go 2 a_Tx_block_56 rfl
theorem a_Tx_block_61 : dk_at b_Tx_block 61 t_Tx_block_61 := dk_go 3 a_Tx_block_58 rfl
theorem a_Tx_block_62 : dk_at b_Tx_block 62 t_Tx_block_62 := dk_go 1 a_Tx_block_61 rfl
theorem a_Tx_block_65 : dk_at b_Tx_block 65 t_Tx_block_65 := dk_go 3 a_Tx_block_62 rfl
theorem a_Tx_block_66 : dk_at b_Tx_block 66 t_Tx_block_66 := dk_go 1 a_Tx_block_65 rfl
theorem a_Tx_block_67 : dk_at b_Tx_block 67 t_Tx_block_67 := dk_go 1 a_Tx_block_66 rfl
theorem a_Tx_block_70 : dk_at b_Tx_block 70 t_Tx_block_70 := dk_go 3 a_Tx_block_67 rfl
theorem a_Tx_block_71 : dk_at b_Tx_block 71 t_Tx_block_71 := dk_go 1 a_Tx_block_70 rfl
theorem a_Tx_block_72 : dk_at b_Tx_block 72 t_Tx_block_72 := dk_go 1 a_Tx_block_71 rfl
theorem a_Tx_block_73 : dk_at b_Tx_block 73 t_Tx_block_73 := dk_go 1 a_Tx_block_72 rfl
theorem a_Tx_block_74 : dk_at b_Tx_block 74 t_Tx_block_74 := dk_go 1 a_Tx_block_73 rfl
theorem a_Tx_block_77 : dk_at b_Tx_block 77 t_Tx_block_77 := dk_go 3 a_Tx_block_74 rfl
theorem a_Tx_block_80 : dk_at b_Tx_block 80 t_Tx_block_80 := dk_go 3 a_Tx_block_77 rfl
theorem a_Tx_block_81 : dk_at b_Tx_block 81 t_Tx_block_81 := dk_go 1 a_Tx_block_80 rfl
theorem a_Tx_block_82 : dk_at b_Tx_block 82 t_Tx_block_82 := dk_go 1 a_Tx_block_81 rfl
theorem a_Tx_block_85 : dk_at b_Tx_block 85 t_Tx_block_85 := dk_go 3 a_Tx_block_82 rfl
theorem a_Tx_block_86 : dk_at b_Tx_block 86 t_Tx_block_86 := dk_go 1 a_Tx_block_85 rfl
theorem a_Tx_block_87 : dk_at b_Tx_block 87 t_Tx_block_87 := dk_go 1 a_Tx_block_86 rfl
theorem a_Tx_block_90 : dk_at b_Tx_block 90 t_Tx_block_90 := dk_go 3 a_Tx_block_87 rfl
theorem a_Tx_block_91 : dk_at b_Tx_block 91 t_Tx_block_91 := dk_go 1 a_Tx_block_90 rfl
theorem a_Tx_block_94 : dk_at b_Tx_block 94 t_Tx_block_94 := dk_go 3 a_Tx_block_91 rfl
theorem a_Tx_block_97 : dk_at b_Tx_block 97 t_Tx_block_97 := dk_go 3 a_Tx_block_94 rfl
theorem a_Tx_block_98 : dk_at b_Tx_block 98 t_Tx_block_98 := dk_go 1 a_Tx_block_97 rfl
theorem a_Tx_block_100 : dk_at b_Tx_block 100 t_Tx_block_100 := dk_go 2 a_Tx_block_98 rfl
theorem a_Tx_block_101 : dk_at b_Tx_block 101 t_Tx_block_101 := dk_go 1 a_Tx_block_100 rfl
theorem a_Tx_block_102 : dk_at b_Tx_block 102 t_Tx_block_102 := dk_go 1 a_Tx_block_101 rfl
theorem a_Tx_block_103 : dk_at b_Tx_block 103 t_Tx_block_103 := dk_go 1 a_Tx_block_102 rfl
theorem a_Tx_block_104 : dk_at b_Tx_block 104 t_Tx_block_104 := dk_go 1 a_Tx_block_103 rfl
theorem a_Tx_block_107 : dk_at b_Tx_block 107 t_Tx_block_107 := dk_go 3 a_Tx_block_104 rfl
theorem a_Tx_block_110 : dk_at b_Tx_block 110 t_Tx_block_110 := dk_go 3 a_Tx_block_107 rfl
theorem a_Tx_block_111 : dk_at b_Tx_block 111 t_Tx_block_111 := dk_go 1 a_Tx_block_110 rfl
theorem d_Tx_block_0 : decode b_Tx_block 0 = .ok (.aload_n 0, 1) := dk_0 a_Tx_block_0 (dko_42 _)
theorem d_Tx_block_1 : decode b_Tx_block 1 = .ok (.getfield 143, 3) := dk_U2 a_Tx_block_1 (dko_180 _) rfl
theorem d_Tx_block_4 : decode b_Tx_block 4 = .ok (.istore_n 1, 1) := dk_0 a_Tx_block_4 (dko_60 _)
theorem d_Tx_block_5 : decode b_Tx_block 5 = .ok (.aload_n 0, 1) := dk_0 a_Tx_block_5 (dko_42 _)
theorem d_Tx_block_6 : decode b_Tx_block 6 = .ok (.getfield 146, 3) := dk_U2 a_Tx_block_6 (dko_180 _) rfl
theorem d_Tx_block_9 : decode b_Tx_block 9 = .ok (.bipush 123, 2) := dk_S1 a_Tx_block_9 (dko_16 _) (by decide +kernel)
theorem d_Tx_block_11 : decode b_Tx_block 11 = .ok (.if_icmp .ne 12, 3) := dk_S2 a_Tx_block_11 (dko_160 _) (by decide +kernel)
theorem d_Tx_block_14 : decode b_Tx_block 14 = .ok (.aload_n 0, 1) := dk_0 a_Tx_block_14 (dko_42 _)
theorem d_Tx_block_15 : decode b_Tx_block 15 = .ok (.getfield 228, 3) := dk_U2 a_Tx_block_15 (dko_180 _) rfl
theorem d_Tx_block_18 : decode b_Tx_block 18 = .ok (.bipush 20, 2) := dk_S1 a_Tx_block_18 (dko_16 _) (by decide +kernel)
theorem d_Tx_block_20 : decode b_Tx_block 20 = .ok (.if_icmp .ne 8, 3) := dk_S2 a_Tx_block_20 (dko_160 _) (by decide +kernel)
theorem d_Tx_block_23 : decode b_Tx_block 23 = .ok (.aload_n 0, 1) := dk_0 a_Tx_block_23 (dko_42 _)
theorem d_Tx_block_24 : decode b_Tx_block 24 = .ok (.invokevirtual 192, 3) := dk_U2 a_Tx_block_24 (dko_182 _) rfl
theorem d_Tx_block_27 : decode b_Tx_block 27 = .ok (.ireturn, 1) := dk_0 a_Tx_block_27 (dko_172 _)
theorem d_Tx_block_28 : decode b_Tx_block 28 = .ok (.aload_n 0, 1) := dk_0 a_Tx_block_28 (dko_42 _)
theorem d_Tx_block_29 : decode b_Tx_block 29 = .ok (.dup, 1) := dk_0 a_Tx_block_29 (dko_89 _)
theorem d_Tx_block_30 : decode b_Tx_block 30 = .ok (.getfield 228, 3) := dk_U2 a_Tx_block_30 (dko_180 _) rfl
theorem d_Tx_block_33 : decode b_Tx_block 33 = .ok (.iconst 1, 1) := dk_0 a_Tx_block_33 (dko_4 _)
theorem d_Tx_block_34 : decode b_Tx_block 34 = .ok (.iadd, 1) := dk_0 a_Tx_block_34 (dko_96 _)
theorem d_Tx_block_35 : decode b_Tx_block 35 = .ok (.putfield 228, 3) := dk_U2 a_Tx_block_35 (dko_181 _) rfl
theorem d_Tx_block_38 : decode b_Tx_block 38 = .ok (.aload_n 0, 1) := dk_0 a_Tx_block_38 (dko_42 _)
theorem d_Tx_block_39 : decode b_Tx_block 39 = .ok (.getfield 201, 3) := dk_U2 a_Tx_block_39 (dko_180 _) rfl
theorem d_Tx_block_42 : decode b_Tx_block 42 = .ok (.istore_n 2, 1) := dk_0 a_Tx_block_42 (dko_61 _)
theorem d_Tx_block_43 : decode b_Tx_block 43 = .ok (.aload_n 0, 1) := dk_0 a_Tx_block_43 (dko_42 _)
theorem d_Tx_block_44 : decode b_Tx_block 44 = .ok (.invokevirtual 182, 3) := dk_U2 a_Tx_block_44 (dko_182 _) rfl
theorem d_Tx_block_47 : decode b_Tx_block 47 = .ok (.ifCond .ne 5, 3) := dk_S2 a_Tx_block_47 (dko_154 _) (by decide +kernel)
theorem d_Tx_block_50 : decode b_Tx_block 50 = .ok (.iconst (-1), 1) := dk_0 a_Tx_block_50 (dko_2 _)
theorem d_Tx_block_51 : decode b_Tx_block 51 = .ok (.ireturn, 1) := dk_0 a_Tx_block_51 (dko_172 _)
theorem d_Tx_block_52 : decode b_Tx_block 52 = .ok (.aload_n 0, 1) := dk_0 a_Tx_block_52 (dko_42 _)
theorem d_Tx_block_53 : decode b_Tx_block 53 = .ok (.getfield 146, 3) := dk_U2 a_Tx_block_53 (dko_180 _) rfl
theorem d_Tx_block_56 : decode b_Tx_block 56 = .ok (.bipush 125, 2) := dk_S1 a_Tx_block_56 (dko_16 _) (by decide +kernel)
theorem d_Tx_block_58 : decode b_Tx_block 58 = .ok (.if_icmp .eq 22, 3) := dk_S2 a_Tx_block_58 (dko_159 _) (by decide +kernel)
theorem d_Tx_block_61 : decode b_Tx_block 61 = .ok (.aload_n 0, 1) := dk_0 a_Tx_block_61 (dko_42 _)
theorem d_Tx_block_62 : decode b_Tx_block 62 = .ok (.invokevirtual 255, 3) := dk_U2 a_Tx_block_62 (dko_182 _) rfl
theorem d_Tx_block_65 : decode b_Tx_block 65 = .ok (.istore_n 3, 1) := dk_0 a_Tx_block_65 (dko_62 _)
theorem d_Tx_block_66 : decode b_Tx_block 66 = .ok (.iload_n 3, 1) := dk_0 a_Tx_block_66 (dko_29 _)
theorem d_Tx_block_67 : decode b_Tx_block 67 = .ok (.ifCond .ge 5, 3) := dk_S2 a_Tx_block_67 (dko_156 _) (by decide +kernel)
theorem d_Tx_block_70 : decode b_Tx_block 70 = .ok (.iconst (-1), 1) := dk_0 a_Tx_block_70 (dko_2 _)
theorem d_Tx_block_71 : decode b_Tx_block 71 = .ok (.ireturn, 1) := dk_0 a_Tx_block_71 (dko_172 _)
theorem d_Tx_block_72 : decode b_Tx_block 72 = .ok (.aload_n 0, 1) := dk_0 a_Tx_block_72 (dko_42 _)
theorem d_Tx_block_73 : decode b_Tx_block 73 = .ok (.iload_n 3, 1) := dk_0 a_Tx_block_73 (dko_29 _)
theorem d_Tx_block_74 : decode b_Tx_block 74 = .ok (.invokevirtual 204, 3) := dk_U2 a_Tx_block_74 (dko_182 _) rfl
theorem d_Tx_block_77 : decode b_Tx_block 77 = .ok (.goto (-25), 3) := dk_S2 a_Tx_block_77 (dko_167 _) (by decide +kernel)
theorem d_Tx_block_80 : decode b_Tx_block 80 = .ok (.aload_n 0, 1) := dk_0 a_Tx_block_80 (dko_42 _)
theorem d_Tx_block_81 : decode b_Tx_block 81 = .ok (.dup, 1) := dk_0 a_Tx_block_81 (dko_89 _)
theorem d_Tx_block_82 : decode b_Tx_block 82 = .ok (.getfield 228, 3) := dk_U2 a_Tx_block_82 (dko_180 _) rfl
theorem d_Tx_block_85 : decode b_Tx_block 85 = .ok (.iconst 1, 1) := dk_0 a_Tx_block_85 (dko_4 _)
theorem d_Tx_block_86 : decode b_Tx_block 86 = .ok (.isub, 1) := dk_0 a_Tx_block_86 (dko_100 _)
theorem d_Tx_block_87 : decode b_Tx_block 87 = .ok (.putfield 228, 3) := dk_U2 a_Tx_block_87 (dko_181 _) rfl
theorem d_Tx_block_90 : decode b_Tx_block 90 = .ok (.aload_n 0, 1) := dk_0 a_Tx_block_90 (dko_42 _)
theorem d_Tx_block_91 : decode b_Tx_block 91 = .ok (.invokevirtual 182, 3) := dk_U2 a_Tx_block_91 (dko_182 _) rfl
theorem d_Tx_block_94 : decode b_Tx_block 94 = .ok (.ifCond .eq 16, 3) := dk_S2 a_Tx_block_94 (dko_153 _) (by decide +kernel)
theorem d_Tx_block_97 : decode b_Tx_block 97 = .ok (.aload_n 0, 1) := dk_0 a_Tx_block_97 (dko_42 _)
theorem d_Tx_block_98 : decode b_Tx_block 98 = .ok (.bipush 23, 2) := dk_S1 a_Tx_block_98 (dko_16 _) (by decide +kernel)
theorem d_Tx_block_100 : decode b_Tx_block 100 = .ok (.lconst 0, 1) := dk_0 a_Tx_block_100 (dko_9 _)
theorem d_Tx_block_101 : decode b_Tx_block 101 = .ok (.iload_n 1, 1) := dk_0 a_Tx_block_101 (dko_27 _)
theorem d_Tx_block_102 : decode b_Tx_block 102 = .ok (.iconst (-1), 1) := dk_0 a_Tx_block_102 (dko_2 _)
theorem d_Tx_block_103 : decode b_Tx_block 103 = .ok (.iload_n 2, 1) := dk_0 a_Tx_block_103 (dko_28 _)
theorem d_Tx_block_104 : decode b_Tx_block 104 = .ok (.invokevirtual 208, 3) := dk_U2 a_Tx_block_104 (dko_182 _) rfl
theorem d_Tx_block_107 : decode b_Tx_block 107 = .ok (.goto 4, 3) := dk_S2 a_Tx_block_107 (dko_167 _) (by decide +kernel)
theorem d_Tx_block_110 : decode b_Tx_block 110 = .ok (.iconst (-1), 1) := dk_0 a_Tx_block_110 (dko_2 _)
theorem d_Tx_block_111 : decode b_Tx_block 111 = .ok (.ireturn, 1) := dk_0 a_Tx_block_111 (dko_172 _)
set_option maxHeartbeats 4000000 in
set_option maxRecDepth 100000 in
theorem ok_Tx_block (pc : Nat) : OpS mt mi_Tx_block pc (cs_Tx_block pc) := (os_n (os_n (os_n (os_n (os_n (os_l (so_aload_n d_Tx_block_0 rfl)) (os_n (os_l (so_get (C := R_Tx) (T := F_Tx) (N := 39) (j := 7) in_Tx rfl (by decide) mw_1586 d_Tx_block_1)) (os_l (so_istore_n d_Tx_block_4 rfl (by decide))))) (os_n (os_n (os_l (so_aload_n d_Tx_block_5 rfl)) (os_l (so_get (C := R_Tx) (T := F_Tx) (N := 39) (j := 4) in_Tx rfl (by decide) mw_1583 d_Tx_block_6))) (os_n (os_l (so_bipush d_Tx_block_9 (by decide))) (os_l (so_icne d_Tx_block_11 (by decide)))))) (os_n (os_n (os_n (os_l (so_aload_n d_Tx_block_14 rfl)) (os_l (so_get (C := R_Tx) (T := F_Tx) (N := 39) (j := 11) in_Tx rfl (by decide) mw_1590 d_Tx_block_15))) (os_n (os_l (so_bipush d_Tx_block_18 (by decide))) (os_l (so_icne d_Tx_block_20 (by decide))))) (os_n (os_n (os_l (so_aload_n d_Tx_block_23 rfl)) (os_l (so_callV (iv := mi_Tx_bad) rfl rfl rfl mw_2255 mw_2257 sl_120 mw_19 mw_2258 ⟨by decide +kernel, by decide +kernel, by decide +kernel⟩ (by decide) d_Tx_block_24))) (os_n (os_l (so_ireturn rfl d_Tx_block_27)) (os_l (so_aload_n d_Tx_block_28 rfl)))))) (os_n (os_n (os_n (os_n (os_l (so_dup d_Tx_block_29)) (os_l (so_get (C := R_Tx) (T := F_Tx) (N := 39) (j := 11) in_Tx rfl (by decide) mw_1590 d_Tx_block_30))) (os_n (os_l (so_iconst d_Tx_block_33 (by decide))) (os_l (so_iadd d_Tx_block_34)))) (os_n (os_n (os_l (so_putI (C := R_Tx) (T := F_Tx) (N := 39) (j := 11) in_Tx t_Tx_ok n_Tx rfl (by decide) mw_1590 rfl (by decide +kernel) d_Tx_block_35)) (os_l (so_aload_n d_Tx_block_38 rfl))) (os_n (os_l (so_get (C := R_Tx) (T := F_Tx) (N := 39) (j := 35) in_Tx rfl (by decide) mw_1623 d_Tx_block_39)) (os_l (so_istore_n d_Tx_block_42 rfl (by decide)))))) (os_n (os_n (os_n (os_l (so_aload_n d_Tx_block_43 rfl)) (os_l (so_callV (iv := mi_Tx_go) rfl rfl rfl mw_2182 mw_2184 sl_111 mw_19 mw_2185 ⟨by decide +kernel, by decide +kernel, by decide +kernel⟩ (by decide) d_Tx_block_44))) (os_n (os_l (so_ifne d_Tx_block_47 (by decide))) (os_l (so_iconst d_Tx_block_50 (by decide))))) (os_n (os_n (os_l (so_ireturn rfl d_Tx_block_51)) (os_l (so_aload_n d_Tx_block_52 rfl))) (os_n (os_l (so_get (C := R_Tx) (T := F_Tx) (N := 39) (j := 4) in_Tx rfl (by decide) mw_1583 d_Tx_block_53)) (os_l (so_bipush d_Tx_block_56 (by decide)))))))) (os_n (os_n (os_n (os_n (os_l (so_iceq d_Tx_block_58 (by decide))) (os_n (os_l (so_aload_n d_Tx_block_61 rfl)) (os_l (so_callV (iv := mi_Tx_statement) rfl rfl rfl mw_2271 mw_2273 sl_124 mw_19 mw_2274 ⟨by decide +kernel, by decide +kernel, by decide +kernel⟩ (by decide) d_Tx_block_62)))) (os_n (os_n (os_l (so_istore_n d_Tx_block_65 rfl (by decide))) (os_l (so_iload_n d_Tx_block_66 rfl))) (os_n (os_l (so_ifge d_Tx_block_67 (by decide))) (os_l (so_iconst d_Tx_block_70 (by decide)))))) (os_n (os_n (os_n (os_l (so_ireturn rfl d_Tx_block_71)) (os_l (so_aload_n d_Tx_block_72 rfl))) (os_n (os_l (so_iload_n d_Tx_block_73 rfl)) (os_l (so_callV (iv := mi_Tx_push) rfl rfl rfl mw_2310 mw_2312 sl_133 mw_19 mw_2313 ⟨by decide +kernel, by decide +kernel, by decide +kernel⟩ (by decide) d_Tx_block_74)))) (os_n (os_n (os_l (so_goto d_Tx_block_77 (by decide))) (os_l (so_aload_n d_Tx_block_80 rfl))) (os_n (os_l (so_dup d_Tx_block_81)) (os_l (so_get (C := R_Tx) (T := F_Tx) (N := 39) (j := 11) in_Tx rfl (by decide) mw_1590 d_Tx_block_82)))))) (os_n (os_n (os_n (os_n (os_l (so_iconst d_Tx_block_85 (by decide))) (os_l (so_isub d_Tx_block_86))) (os_n (os_l (so_putI (C := R_Tx) (T := F_Tx) (N := 39) (j := 11) in_Tx t_Tx_ok n_Tx rfl (by decide) mw_1590 rfl (by decide +kernel) d_Tx_block_87)) (os_l (so_aload_n d_Tx_block_90 rfl)))) (os_n (os_n (os_l (so_callV (iv := mi_Tx_go) rfl rfl rfl mw_2182 mw_2184 sl_111 mw_19 mw_2185 ⟨by decide +kernel, by decide +kernel, by decide +kernel⟩ (by decide) d_Tx_block_91)) (os_l (so_ifeq d_Tx_block_94 (by decide)))) (os_n (os_l (so_aload_n d_Tx_block_97 rfl)) (os_l (so_bipush d_Tx_block_98 (by decide)))))) (os_n (os_n (os_n (os_l (so_lconst d_Tx_block_100 (by decide))) (os_l (so_iload_n d_Tx_block_101 rfl))) (os_n (os_l (so_iconst d_Tx_block_102 (by decide))) (os_l (so_iload_n d_Tx_block_103 rfl)))) (os_n (os_n (os_l (so_callV (iv := mi_Tx_node0) rfl rfl rfl mw_2302 mw_2304 sl_131 mw_19 mw_2305 ⟨by decide +kernel, by decide +kernel, by decide +kernel⟩ (by decide) d_Tx_block_104)) (os_l (so_goto d_Tx_block_107 (by decide)))) (os_n (os_l (so_iconst d_Tx_block_110 (by decide))) (os_l (so_ireturn rfl d_Tx_block_111))))))))
abbrev t_Tx_sumOf_36 : List UInt8 := 172 :: []
abbrev t_Tx_sumOf_35 : List UInt8 := 4 :: t_Tx_sumOf_36
abbrev t_Tx_sumOf_32 : List UInt8 := 182 :: 0 :: 204 :: t_Tx_sumOf_35
abbrev t_Tx_sumOf_31 : List UInt8 := 28 :: t_Tx_sumOf_32
abbrev t_Tx_sumOf_30 : List UInt8 := 42 :: t_Tx_sumOf_31
abbrev t_Tx_sumOf_29 : List UInt8 := 172 :: t_Tx_sumOf_30
abbrev t_Tx_sumOf_28 : List UInt8 := 3 :: t_Tx_sumOf_29
abbrev t_Tx_sumOf_25 : List UInt8 := 181 :: 0 :: 159 :: t_Tx_sumOf_28
abbrev t_Tx_sumOf_22 : List UInt8 := 180 :: 0 :: 69 :: t_Tx_sumOf_25
abbrev t_Tx_sumOf_21 : List UInt8 := 42 :: t_Tx_sumOf_22
abbrev t_Tx_sumOf_20 : List UInt8 := 42 :: t_Tx_sumOf_21
abbrev t_Tx_sumOf_17 : List UInt8 := 159 :: 0 :: 13 :: t_Tx_sumOf_20
abbrev t_Tx_sumOf_16 : List UInt8 := 27 :: t_Tx_sumOf_17
abbrev t_Tx_sumOf_13 : List UInt8 := 182 :: 0 :: 215 :: t_Tx_sumOf_16
abbrev t_Tx_sumOf_12 : List UInt8 := 28 :: t_Tx_sumOf_13
abbrev t_Tx_sumOf_11 : List UInt8 := 42 :: t_Tx_sumOf_12
abbrev t_Tx_sumOf_10 : List UInt8 := 172 :: t_Tx_sumOf_11
abbrev t_Tx_sumOf_9 : List UInt8 := 3 :: t_Tx_sumOf_10
abbrev t_Tx_sumOf_6 : List UInt8 := 156 :: 0 :: 5 :: t_Tx_sumOf_9
abbrev t_Tx_sumOf_5 : List UInt8 := 28 :: t_Tx_sumOf_6
abbrev t_Tx_sumOf_4 : List UInt8 := 61 :: t_Tx_sumOf_5
abbrev t_Tx_sumOf_1 : List UInt8 := 182 :: 0 :: 231 :: t_Tx_sumOf_4
abbrev t_Tx_sumOf_0 : List UInt8 := 42 :: t_Tx_sumOf_1
theorem a_Tx_sumOf_0 : dk_at b_Tx_sumOf 0 t_Tx_sumOf_0 := dk_start (by decide +kernel)
theorem a_Tx_sumOf_1 : dk_at b_Tx_sumOf 1 t_Tx_sumOf_1 := dk_go 1 a_Tx_sumOf_0 rfl
theorem a_Tx_sumOf_4 : dk_at b_Tx_sumOf 4 t_Tx_sumOf_4 := dk_go 3 a_Tx_sumOf_1 rfl
theorem a_Tx_sumOf_5 : dk_at b_Tx_sumOf 5 t_Tx_sumOf_5 := dk_go 1 a_Tx_sumOf_4 rfl
theorem a_Tx_sumOf_6 : dk_at b_Tx_sumOf 6 t_Tx_sumOf_6 := dk_go 1 a_Tx_sumOf_5 rfl
theorem a_Tx_sumOf_9 : dk_at b_Tx_sumOf 9 t_Tx_sumOf_9 := dk_go 3 a_Tx_sumOf_6 rfl
theorem a_Tx_sumOf_10 : dk_at b_Tx_sumOf 10 t_Tx_sumOf_10 := dk_go 1 a_Tx_sumOf_9 rfl
theorem a_Tx_sumOf_11 : dk_at b_Tx_sumOf 11 t_Tx_sumOf_11 := dk_go 1 a_Tx_sumOf_10 rfl
theorem a_Tx_sumOf_12 : dk_at b_Tx_sumOf 12 t_Tx_sumOf_12 := dk_go 1 a_Tx_sumOf_11 rfl
theorem a_Tx_sumOf_13 : dk_at b_Tx_sumOf 13 t_Tx_sumOf_13 := dk_go 1 a_Tx_sumOf_12 rfl
theorem a_Tx_sumOf_16 : dk_at b_Tx_sumOf 16 t_Tx_sumOf_16 := dk_go 3 a_Tx_sumOf_13 rfl
theorem a_Tx_sumOf_17 : dk_at b_Tx_sumOf 17 t_Tx_sumOf_17 := dk_go 1 a_Tx_sumOf_16 rfl
theorem a_Tx_sumOf_20 : dk_at b_Tx_sumOf 20 t_Tx_sumOf_20 := dk_go 3 a_Tx_sumOf_17 rfl
theorem a_Tx_sumOf_21 : dk_at b_Tx_sumOf 21 t_Tx_sumOf_21 := dk_go 1 a_Tx_sumOf_20 rfl
theorem a_Tx_sumOf_22 : dk_at b_Tx_sumOf 22 t_Tx_sumOf_22 := dk_go 1 a_Tx_sumOf_21 rfl
theorem a_Tx_sumOf_25 : dk_at b_Tx_sumOf 25 t_Tx_sumOf_25 := dk_go 3 a_Tx_sumOf_22 rfl
theorem a_Tx_sumOf_28 : dk_at b_Tx_sumOf 28 t_Tx_sumOf_28 := dk_go 3 a_Tx_sumOf_25 rfl
theorem a_Tx_sumOf_29 : dk_at b_Tx_sumOf 29 t_Tx_sumOf_29 := dk_go 1 a_Tx_sumOf_28 rfl
theorem a_Tx_sumOf_30 : dk_at b_Tx_sumOf 30 t_Tx_sumOf_30 := dk_go 1 a_Tx_sumOf_29 rfl
theorem a_Tx_sumOf_31 : dk_at b_Tx_sumOf 31 t_Tx_sumOf_31 := dk_go 1 a_Tx_sumOf_30 rfl
theorem a_Tx_sumOf_32 : dk_at b_Tx_sumOf 32 t_Tx_sumOf_32 := dk_go 1 a_Tx_sumOf_31 rfl
theorem a_Tx_sumOf_35 : dk_at b_Tx_sumOf 35 t_Tx_sumOf_35 := dk_go 3 a_Tx_sumOf_32 rfl
theorem a_Tx_sumOf_36 : dk_at b_Tx_sumOf 36 t_Tx_sumOf_36 := dk_go 1 a_Tx_sumOf_35 rfl
theorem d_Tx_sumOf_0 : decode b_Tx_sumOf 0 = .ok (.aload_n 0, 1) := dk_0 a_Tx_sumOf_0 (dko_42 _)
theorem d_Tx_sumOf_1 : decode b_Tx_sumOf 1 = .ok (.invokevirtual 231, 3) := dk_U2 a_Tx_sumOf_1 (dko_182 _) rfl
theorem d_Tx_sumOf_4 : decode b_Tx_sumOf 4 = .ok (.istore_n 2, 1) := dk_0 a_Tx_sumOf_4 (dko_61 _)
theorem d_Tx_sumOf_5 : decode b_Tx_sumOf 5 = .ok (.iload_n 2, 1) := dk_0 a_Tx_sumOf_5 (dko_28 _)
theorem d_Tx_sumOf_6 : decode b_Tx_sumOf 6 = .ok (.ifCond .ge 5, 3) := dk_S2 a_Tx_sumOf_6 (dko_156 _) (by decide +kernel)
theorem d_Tx_sumOf_9 : decode b_Tx_sumOf 9 = .ok (.iconst 0, 1) := dk_0 a_Tx_sumOf_9 (dko_3 _)
theorem d_Tx_sumOf_10 : decode b_Tx_sumOf 10 = .ok (.ireturn, 1) := dk_0 a_Tx_sumOf_10 (dko_172 _)
theorem d_Tx_sumOf_11 : decode b_Tx_sumOf 11 = .ok (.aload_n 0, 1) := dk_0 a_Tx_sumOf_11 (dko_42 _)
theorem d_Tx_sumOf_12 : decode b_Tx_sumOf 12 = .ok (.iload_n 2, 1) := dk_0 a_Tx_sumOf_12 (dko_28 _)
theorem d_Tx_sumOf_13 : decode b_Tx_sumOf 13 = .ok (.invokevirtual 215, 3) := dk_U2 a_Tx_sumOf_13 (dko_182 _) rfl
theorem d_Tx_sumOf_16 : decode b_Tx_sumOf 16 = .ok (.iload_n 1, 1) := dk_0 a_Tx_sumOf_16 (dko_27 _)
theorem d_Tx_sumOf_17 : decode b_Tx_sumOf 17 = .ok (.if_icmp .eq 13, 3) := dk_S2 a_Tx_sumOf_17 (dko_159 _) (by decide +kernel)
theorem d_Tx_sumOf_20 : decode b_Tx_sumOf 20 = .ok (.aload_n 0, 1) := dk_0 a_Tx_sumOf_20 (dko_42 _)
theorem d_Tx_sumOf_21 : decode b_Tx_sumOf 21 = .ok (.aload_n 0, 1) := dk_0 a_Tx_sumOf_21 (dko_42 _)
theorem d_Tx_sumOf_22 : decode b_Tx_sumOf 22 = .ok (.getfield 69, 3) := dk_U2 a_Tx_sumOf_22 (dko_180 _) rfl
theorem d_Tx_sumOf_25 : decode b_Tx_sumOf 25 = .ok (.putfield 159, 3) := dk_U2 a_Tx_sumOf_25 (dko_181 _) rfl
theorem d_Tx_sumOf_28 : decode b_Tx_sumOf 28 = .ok (.iconst 0, 1) := dk_0 a_Tx_sumOf_28 (dko_3 _)
theorem d_Tx_sumOf_29 : decode b_Tx_sumOf 29 = .ok (.ireturn, 1) := dk_0 a_Tx_sumOf_29 (dko_172 _)
theorem d_Tx_sumOf_30 : decode b_Tx_sumOf 30 = .ok (.aload_n 0, 1) := dk_0 a_Tx_sumOf_30 (dko_42 _)
theorem d_Tx_sumOf_31 : decode b_Tx_sumOf 31 = .ok (.iload_n 2, 1) := dk_0 a_Tx_sumOf_31 (dko_28 _)
theorem d_Tx_sumOf_32 : decode b_Tx_sumOf 32 = .ok (.invokevirtual 204, 3) := dk_U2 a_Tx_sumOf_32 (dko_182 _) rfl
theorem d_Tx_sumOf_35 : decode b_Tx_sumOf 35 = .ok (.iconst 1, 1) := dk_0 a_Tx_sumOf_35 (dko_4 _)
theorem d_Tx_sumOf_36 : decode b_Tx_sumOf 36 = .ok (.ireturn, 1) := dk_0 a_Tx_sumOf_36 (dko_172 _)
set_option maxHeartbeats 4000000 in
set_option maxRecDepth 100000 in
theorem ok_Tx_sumOf (pc : Nat) : OpS mt mi_Tx_sumOf pc (cs_Tx_sumOf pc) := (os_n (os_n (os_n (os_n (os_l (so_aload_n d_Tx_sumOf_0 rfl)) (os_l (so_callV (iv := mi_Tx_sum) rfl rfl rfl mw_2283 mw_2285 sl_127 mw_19 mw_2286 ⟨by decide +kernel, by decide +kernel, by decide +kernel⟩ (by decide) d_Tx_sumOf_1))) (os_n (os_l (so_istore_n d_Tx_sumOf_4 rfl (by decide))) (os_n (os_l (so_iload_n d_Tx_sumOf_5 rfl)) (os_l (so_ifge d_Tx_sumOf_6 (by decide)))))) (os_n (os_n (os_l (so_iconst d_Tx_sumOf_9 (by decide))) (os_n (os_l (so_zreturn rfl d_Tx_sumOf_10)) (os_l (so_aload_n d_Tx_sumOf_11 rfl)))) (os_n (os_l (so_iload_n d_Tx_sumOf_12 rfl)) (os_n (os_l (so_callV (iv := mi_Tx_unitIn) rfl rfl rfl mw_2314 mw_2316 sl_134 mw_19 mw_2317 ⟨by decide +kernel, by decide +kernel, by decide +kernel⟩ (by decide) d_Tx_sumOf_13)) (os_l (so_iload_n d_Tx_sumOf_16 rfl)))))) (os_n (os_n (os_n (os_l (so_iceq d_Tx_sumOf_17 (by decide))) (os_n (os_l (so_aload_n d_Tx_sumOf_20 rfl)) (os_l (so_aload_n d_Tx_sumOf_21 rfl)))) (os_n (os_l (so_get (C := R_Tx) (T := F_Tx) (N := 39) (j := 5) in_Tx rfl (by decide) mw_1584 d_Tx_sumOf_22)) (os_n (os_l (so_putI (C := R_Tx) (T := F_Tx) (N := 39) (j := 10) in_Tx t_Tx_ok n_Tx rfl (by decide) mw_1589 rfl (by decide +kernel) d_Tx_sumOf_25)) (os_l (so_iconst d_Tx_sumOf_28 (by decide)))))) (os_n (os_n (os_l (so_zreturn rfl d_Tx_sumOf_29)) (os_n (os_l (so_aload_n d_Tx_sumOf_30 rfl)) (os_l (so_iload_n d_Tx_sumOf_31 rfl)))) (os_n (os_l (so_callV (iv := mi_Tx_push) rfl rfl rfl mw_2310 mw_2312 sl_133 mw_19 mw_2313 ⟨by decide +kernel, by decide +kernel, by decide +kernel⟩ (by decide) d_Tx_sumOf_32)) (os_n (os_l (so_iconst d_Tx_sumOf_35 (by decide))) (os_l (so_zreturn rfl d_Tx_sumOf_36)))))))
abbrev t_Tx_pushed_12 : List UInt8 := 172 :: []
abbrev t_Tx_pushed_11 : List UInt8 := 4 :: t_Tx_pushed_12
abbrev t_Tx_pushed_8 : List UInt8 := 182 :: 0 :: 204 :: t_Tx_pushed_11
abbrev t_Tx_pushed_7 : List UInt8 := 27 :: t_Tx_pushed_8
abbrev t_Tx_pushed_6 : List UInt8 := 42 :: t_Tx_pushed_7
abbrev t_Tx_pushed_5 : List UInt8 := 172 :: t_Tx_pushed_6
abbrev t_Tx_pushed_4 : List UInt8 := 3 :: t_Tx_pushed_5
abbrev t_Tx_pushed_1 : List UInt8 := 156 :: 0 :: 5 :: t_Tx_pushed_4
abbrev t_Tx_pushed_0 : List UInt8 := 27 :: t_Tx_pushed_1
theorem a_Tx_pushed_0 : dk_at b_Tx_pushed 0 t_Tx_pushed_0 := dk_start (by decide +kernel)
theorem a_Tx_pushed_1 : dk_at b_Tx_pushed 1 t_Tx_pushed_1 := dk_go 1 a_Tx_pushed_0 rfl
theorem a_Tx_pushed_4 : dk_at b_Tx_pushed 4 t_Tx_pushed_4 := dk_go 3 a_Tx_pushed_1 rfl
theorem a_Tx_pushed_5 : dk_at b_Tx_pushed 5 t_Tx_pushed_5 := dk_go 1 a_Tx_pushed_4 rfl
theorem a_Tx_pushed_6 : dk_at b_Tx_pushed 6 t_Tx_pushed_6 := dk_go 1 a_Tx_pushed_5 rfl
theorem a_Tx_pushed_7 : dk_at b_Tx_pushed 7 t_Tx_pushed_7 := dk_go 1 a_Tx_pushed_6 rfl
theorem a_Tx_pushed_8 : dk_at b_Tx_pushed 8 t_Tx_pushed_8 := dk_go 1 a_Tx_pushed_7 rfl
theorem a_Tx_pushed_11 : dk_at b_Tx_pushed 11 t_Tx_pushed_11 := dk_go 3 a_Tx_pushed_8 rfl
theorem a_Tx_pushed_12 : dk_at b_Tx_pushed 12 t_Tx_pushed_12 := dk_go 1 a_Tx_pushed_11 rfl
theorem d_Tx_pushed_0 : decode b_Tx_pushed 0 = .ok (.iload_n 1, 1) := dk_0 a_Tx_pushed_0 (dko_27 _)
theorem d_Tx_pushed_1 : decode b_Tx_pushed 1 = .ok (.ifCond .ge 5, 3) := dk_S2 a_Tx_pushed_1 (dko_156 _) (by decide +kernel)
theorem d_Tx_pushed_4 : decode b_Tx_pushed 4 = .ok (.iconst 0, 1) := dk_0 a_Tx_pushed_4 (dko_3 _)
theorem d_Tx_pushed_5 : decode b_Tx_pushed 5 = .ok (.ireturn, 1) := dk_0 a_Tx_pushed_5 (dko_172 _)
theorem d_Tx_pushed_6 : decode b_Tx_pushed 6 = .ok (.aload_n 0, 1) := dk_0 a_Tx_pushed_6 (dko_42 _)
theorem d_Tx_pushed_7 : decode b_Tx_pushed 7 = .ok (.iload_n 1, 1) := dk_0 a_Tx_pushed_7 (dko_27 _)
theorem d_Tx_pushed_8 : decode b_Tx_pushed 8 = .ok (.invokevirtual 204, 3) := dk_U2 a_Tx_pushed_8 (dko_182 _) rfl
theorem d_Tx_pushed_11 : decode b_Tx_pushed 11 = .ok (.iconst 1, 1) := dk_0 a_Tx_pushed_11 (dko_4 _)
theorem d_Tx_pushed_12 : decode b_Tx_pushed 12 = .ok (.ireturn, 1) := dk_0 a_Tx_pushed_12 (dko_172 _)
set_option maxHeartbeats 4000000 in
set_option maxRecDepth 100000 in
theorem ok_Tx_pushed (pc : Nat) : OpS mt mi_Tx_pushed pc (cs_Tx_pushed pc) := (os_n (os_n (os_n (os_l (so_iload_n d_Tx_pushed_0 rfl)) (os_l (so_ifge d_Tx_pushed_1 (by decide)))) (os_n (os_l (so_iconst d_Tx_pushed_4 (by decide))) (os_l (so_zreturn rfl d_Tx_pushed_5)))) (os_n (os_n (os_l (so_aload_n d_Tx_pushed_6 rfl)) (os_l (so_iload_n d_Tx_pushed_7 rfl))) (os_n (os_l (so_callV (iv := mi_Tx_push) rfl rfl rfl mw_2310 mw_2312 sl_133 mw_19 mw_2313 ⟨by decide +kernel, by decide +kernel, by decide +kernel⟩ (by decide) d_Tx_pushed_8)) (os_n (os_l (so_iconst d_Tx_pushed_11 (by decide))) (os_l (so_zreturn rfl d_Tx_pushed_12))))))
abbrev t_Tx_statement_615 : List UInt8 := 172 :: []
abbrev t_Tx_statement_612 : List UInt8 := 182 :: 0 :: 208 :: t_Tx_statement_615
abbrev t_Tx_statement_611 : List UInt8 := 29 :: t_Tx_statement_612
abbrev t_Tx_statement_610 : List UInt8 := 2 :: t_Tx_statement_611
abbrev t_Tx_statement_609 : List UInt8 := 28 :: t_Tx_statement_610
abbrev t_Tx_statement_608 : List UInt8 := 133 :: t_Tx_statement_609
abbrev t_Tx_statement_606 : List UInt8 := 21 :: 4 :: t_Tx_statement_608
abbrev t_Tx_statement_605 : List UInt8 := 27 :: t_Tx_statement_606
abbrev t_Tx_statement_604 : List UInt8 := 42 :: t_Tx_statement_605
abbrev t_Tx_statement_601 : List UInt8 := 181 :: 1 :: 19 :: t_Tx_statement_604
abbrev t_Tx_statement_600 : List UInt8 := 96 :: t_Tx_statement_601
abbrev t_Tx_statement_599 : List UInt8 := 4 :: t_Tx_statement_600
abbrev t_Tx_statement_596 : List UInt8 := 180 :: 1 :: 19 :: t_Tx_statement_599
abbrev t_Tx_statement_595 : List UInt8 := 89 :: t_Tx_statement_596
abbrev t_Tx_statement_594 : List UInt8 := 42 :: t_Tx_statement_595
abbrev t_Tx_statement_593 : List UInt8 := 172 :: t_Tx_statement_594
abbrev t_Tx_statement_592 : List UInt8 := 2 :: t_Tx_statement_593
abbrev t_Tx_statement_589 : List UInt8 := 154 :: 0 :: 5 :: t_Tx_statement_592
abbrev t_Tx_statement_587 : List UInt8 := 21 :: 5 :: t_Tx_statement_589
abbrev t_Tx_statement_585 : List UInt8 := 54 :: 5 :: t_Tx_statement_587
abbrev t_Tx_statement_582 : List UInt8 := 182 :: 0 :: 234 :: t_Tx_statement_585
abbrev t_Tx_statement_580 : List UInt8 := 16 :: 59 :: t_Tx_statement_582
abbrev t_Tx_statement_579 : List UInt8 := 42 :: t_Tx_statement_580
abbrev t_Tx_statement_576 : List UInt8 := 167 :: 0 :: 11 :: t_Tx_statement_579
abbrev t_Tx_statement_574 : List UInt8 := 54 :: 5 :: t_Tx_statement_576
abbrev t_Tx_statement_573 : List UInt8 := 3 :: t_Tx_statement_574
abbrev t_Tx_statement_570 : List UInt8 := 167 :: 0 :: 4 :: t_Tx_statement_573
abbrev t_Tx_statement_569 : List UInt8 := 4 :: t_Tx_statement_570
abbrev t_Tx_statement_566 : List UInt8 := 153 :: 0 :: 7 :: t_Tx_statement_569
abbrev t_Tx_statement_563 : List UInt8 := 182 :: 0 :: 234 :: t_Tx_statement_566
abbrev t_Tx_statement_561 : List UInt8 := 16 :: 59 :: t_Tx_statement_563
abbrev t_Tx_statement_560 : List UInt8 := 42 :: t_Tx_statement_561
abbrev t_Tx_statement_557 : List UInt8 := 153 :: 0 :: 16 :: t_Tx_statement_560
abbrev t_Tx_statement_554 : List UInt8 := 182 :: 0 :: 182 :: t_Tx_statement_557
abbrev t_Tx_statement_553 : List UInt8 := 42 :: t_Tx_statement_554
abbrev t_Tx_statement_551 : List UInt8 := 54 :: 4 :: t_Tx_statement_553
abbrev t_Tx_statement_550 : List UInt8 := 136 :: t_Tx_statement_551
abbrev t_Tx_statement_549 : List UInt8 := 109 :: t_Tx_statement_550
abbrev t_Tx_statement_546 : List UInt8 := 20 :: 0 :: 174 :: t_Tx_statement_549
abbrev t_Tx_statement_543 : List UInt8 := 180 :: 0 :: 166 :: t_Tx_statement_546
abbrev t_Tx_statement_542 : List UInt8 := 42 :: t_Tx_statement_543
abbrev t_Tx_statement_541 : List UInt8 := 172 :: t_Tx_statement_542
abbrev t_Tx_statement_538 : List UInt8 := 182 :: 0 :: 192 :: t_Tx_statement_541
abbrev t_Tx_statement_537 : List UInt8 := 42 :: t_Tx_statement_538
abbrev t_Tx_statement_534 : List UInt8 := 155 :: 0 :: 8 :: t_Tx_statement_537
abbrev t_Tx_statement_533 : List UInt8 := 148 :: t_Tx_statement_534
abbrev t_Tx_statement_530 : List UInt8 := 20 :: 1 :: 17 :: t_Tx_statement_533
abbrev t_Tx_statement_527 : List UInt8 := 180 :: 0 :: 166 :: t_Tx_statement_530
abbrev t_Tx_statement_526 : List UInt8 := 42 :: t_Tx_statement_527
abbrev t_Tx_statement_523 : List UInt8 := 154 :: 0 :: 14 :: t_Tx_statement_526
abbrev t_Tx_statement_520 : List UInt8 := 180 :: 0 :: 176 :: t_Tx_statement_523
abbrev t_Tx_statement_519 : List UInt8 := 42 :: t_Tx_statement_520
abbrev t_Tx_statement_516 : List UInt8 := 160 :: 0 :: 21 :: t_Tx_statement_519
abbrev t_Tx_statement_513 : List UInt8 := 17 :: 7 :: 208 :: t_Tx_statement_516
abbrev t_Tx_statement_510 : List UInt8 := 180 :: 0 :: 146 :: t_Tx_statement_513
abbrev t_Tx_statement_509 : List UInt8 := 42 :: t_Tx_statement_510
abbrev t_Tx_statement_506 : List UInt8 := 167 :: 0 :: 81 :: t_Tx_statement_509
abbrev t_Tx_statement_504 : List UInt8 := 54 :: 5 :: t_Tx_statement_506
abbrev t_Tx_statement_503 : List UInt8 := 3 :: t_Tx_statement_504
abbrev t_Tx_statement_500 : List UInt8 := 167 :: 0 :: 4 :: t_Tx_statement_503
abbrev t_Tx_statement_499 : List UInt8 := 4 :: t_Tx_statement_500
abbrev t_Tx_statement_496 : List UInt8 := 153 :: 0 :: 7 :: t_Tx_statement_499
abbrev t_Tx_statement_493 : List UInt8 := 182 :: 0 :: 234 :: t_Tx_statement_496
abbrev t_Tx_statement_491 : List UInt8 := 16 :: 59 :: t_Tx_statement_493
abbrev t_Tx_statement_490 : List UInt8 := 42 :: t_Tx_statement_491
abbrev t_Tx_statement_487 : List UInt8 := 155 :: 0 :: 16 :: t_Tx_statement_490
abbrev t_Tx_statement_485 : List UInt8 := 21 :: 4 :: t_Tx_statement_487
abbrev t_Tx_statement_483 : List UInt8 := 54 :: 4 :: t_Tx_statement_485
abbrev t_Tx_statement_480 : List UInt8 := 182 :: 1 :: 2 :: t_Tx_statement_483
abbrev t_Tx_statement_478 : List UInt8 := 16 :: 24 :: t_Tx_statement_480
abbrev t_Tx_statement_475 : List UInt8 := 167 :: 0 :: 5 :: t_Tx_statement_478
abbrev t_Tx_statement_473 : List UInt8 := 16 :: 30 :: t_Tx_statement_475
abbrev t_Tx_statement_470 : List UInt8 := 160 :: 0 :: 8 :: t_Tx_statement_473
abbrev t_Tx_statement_468 : List UInt8 := 16 :: 18 :: t_Tx_statement_470
abbrev t_Tx_statement_467 : List UInt8 := 27 :: t_Tx_statement_468
abbrev t_Tx_statement_466 : List UInt8 := 42 :: t_Tx_statement_467
abbrev t_Tx_statement_463 : List UInt8 := 167 :: 0 :: 124 :: t_Tx_statement_466
abbrev t_Tx_statement_461 : List UInt8 := 54 :: 5 :: t_Tx_statement_463
abbrev t_Tx_statement_460 : List UInt8 := 3 :: t_Tx_statement_461
abbrev t_Tx_statement_457 : List UInt8 := 167 :: 0 :: 4 :: t_Tx_statement_460
abbrev t_Tx_statement_456 : List UInt8 := 4 :: t_Tx_statement_457
abbrev t_Tx_statement_453 : List UInt8 := 153 :: 0 :: 7 :: t_Tx_statement_456
abbrev t_Tx_statement_450 : List UInt8 := 182 :: 1 :: 11 :: t_Tx_statement_453
abbrev t_Tx_statement_447 : List UInt8 := 182 :: 1 :: 14 :: t_Tx_statement_450
abbrev t_Tx_statement_446 : List UInt8 := 42 :: t_Tx_statement_447
abbrev t_Tx_statement_445 : List UInt8 := 42 :: t_Tx_statement_446
abbrev t_Tx_statement_442 : List UInt8 := 153 :: 0 :: 18 :: t_Tx_statement_445
abbrev t_Tx_statement_439 : List UInt8 := 182 :: 0 :: 234 :: t_Tx_statement_442
abbrev t_Tx_statement_436 : List UInt8 := 17 :: 4 :: 10 :: t_Tx_statement_439
abbrev t_Tx_statement_435 : List UInt8 := 42 :: t_Tx_statement_436
abbrev t_Tx_statement_432 : List UInt8 := 153 :: 0 :: 28 :: t_Tx_statement_435
abbrev t_Tx_statement_429 : List UInt8 := 182 :: 1 :: 11 :: t_Tx_statement_432
abbrev t_Tx_statement_426 : List UInt8 := 182 :: 1 :: 14 :: t_Tx_statement_429
abbrev t_Tx_statement_425 : List UInt8 := 42 :: t_Tx_statement_426
abbrev t_Tx_statement_424 : List UInt8 := 42 :: t_Tx_statement_425
abbrev t_Tx_statement_421 : List UInt8 := 153 :: 0 :: 39 :: t_Tx_statement_424
abbrev t_Tx_statement_418 : List UInt8 := 182 :: 1 :: 11 :: t_Tx_statement_421
abbrev t_Tx_statement_415 : List UInt8 := 182 :: 1 :: 8 :: t_Tx_statement_418
abbrev t_Tx_statement_414 : List UInt8 := 42 :: t_Tx_statement_415
abbrev t_Tx_statement_413 : List UInt8 := 42 :: t_Tx_statement_414
abbrev t_Tx_statement_410 : List UInt8 := 167 :: 0 :: 177 :: t_Tx_statement_413
abbrev t_Tx_statement_408 : List UInt8 := 54 :: 5 :: t_Tx_statement_410
abbrev t_Tx_statement_407 : List UInt8 := 3 :: t_Tx_statement_408
abbrev t_Tx_statement_404 : List UInt8 := 167 :: 0 :: 4 :: t_Tx_statement_407
abbrev t_Tx_statement_403 : List UInt8 := 4 :: t_Tx_statement_404
abbrev t_Tx_statement_400 : List UInt8 := 153 :: 0 :: 7 :: t_Tx_statement_403
abbrev t_Tx_statement_397 : List UInt8 := 182 :: 1 :: 11 :: t_Tx_statement_400
abbrev t_Tx_statement_394 : List UInt8 := 182 :: 1 :: 14 :: t_Tx_statement_397
abbrev t_Tx_statement_393 : List UInt8 := 42 :: t_Tx_statement_394
abbrev t_Tx_statement_392 : List UInt8 := 42 :: t_Tx_statement_393
abbrev t_Tx_statement_389 : List UInt8 := 153 :: 0 :: 18 :: t_Tx_statement_392
abbrev t_Tx_statement_386 : List UInt8 := 182 :: 1 :: 5 :: t_Tx_statement_389
abbrev t_Tx_statement_385 : List UInt8 := 3 :: t_Tx_statement_386
abbrev t_Tx_statement_384 : List UInt8 := 42 :: t_Tx_statement_385
abbrev t_Tx_statement_381 : List UInt8 := 167 :: 0 :: 206 :: t_Tx_statement_384
abbrev t_Tx_statement_379 : List UInt8 := 54 :: 5 :: t_Tx_statement_381
abbrev t_Tx_statement_378 : List UInt8 := 3 :: t_Tx_statement_379
abbrev t_Tx_statement_375 : List UInt8 := 167 :: 0 :: 4 :: t_Tx_statement_378
abbrev t_Tx_statement_374 : List UInt8 := 4 :: t_Tx_statement_375
abbrev t_Tx_statement_371 : List UInt8 := 153 :: 0 :: 7 :: t_Tx_statement_374
abbrev t_Tx_statement_368 : List UInt8 := 182 :: 1 :: 11 :: t_Tx_statement_371
abbrev t_Tx_statement_365 : List UInt8 := 182 :: 1 :: 14 :: t_Tx_statement_368
abbrev t_Tx_statement_364 : List UInt8 := 42 :: t_Tx_statement_365
abbrev t_Tx_statement_363 : List UInt8 := 42 :: t_Tx_statement_364
abbrev t_Tx_statement_360 : List UInt8 := 153 :: 0 :: 18 :: t_Tx_statement_363
abbrev t_Tx_statement_357 : List UInt8 := 182 :: 0 :: 182 :: t_Tx_statement_360
abbrev t_Tx_statement_356 : List UInt8 := 42 :: t_Tx_statement_357
abbrev t_Tx_statement_353 : List UInt8 := 153 :: 0 :: 234 :: t_Tx_statement_356
abbrev t_Tx_statement_350 : List UInt8 := 182 :: 0 :: 237 :: t_Tx_statement_353
abbrev t_Tx_statement_348 : List UInt8 := 16 :: 33 :: t_Tx_statement_350
abbrev t_Tx_statement_347 : List UInt8 := 42 :: t_Tx_statement_348
abbrev t_Tx_statement_344 : List UInt8 := 153 :: 0 :: 243 :: t_Tx_statement_347
abbrev t_Tx_statement_342 : List UInt8 := 21 :: 5 :: t_Tx_statement_344
abbrev t_Tx_statement_340 : List UInt8 := 54 :: 5 :: t_Tx_statement_342
abbrev t_Tx_statement_339 : List UInt8 := 3 :: t_Tx_statement_340
abbrev t_Tx_statement_336 : List UInt8 := 167 :: 0 :: 4 :: t_Tx_statement_339
abbrev t_Tx_statement_335 : List UInt8 := 4 :: t_Tx_statement_336
abbrev t_Tx_statement_332 : List UInt8 := 153 :: 0 :: 7 :: t_Tx_statement_335
abbrev t_Tx_statement_329 : List UInt8 := 182 :: 1 :: 11 :: t_Tx_statement_332
abbrev t_Tx_statement_326 : List UInt8 := 182 :: 1 :: 14 :: t_Tx_statement_329
abbrev t_Tx_statement_325 : List UInt8 := 42 :: t_Tx_statement_326
abbrev t_Tx_statement_324 : List UInt8 := 42 :: t_Tx_statement_325
abbrev t_Tx_statement_321 : List UInt8 := 153 :: 0 :: 18 :: t_Tx_statement_324
abbrev t_Tx_statement_318 : List UInt8 := 182 :: 1 :: 11 :: t_Tx_statement_321
abbrev t_Tx_statement_315 : List UInt8 := 182 :: 1 :: 8 :: t_Tx_statement_318
abbrev t_Tx_statement_314 : List UInt8 := 42 :: t_Tx_statement_315
abbrev t_Tx_statement_313 : List UInt8 := 42 :: t_Tx_statement_314
abbrev t_Tx_statement_310 : List UInt8 := 167 :: 255 :: 232 :: t_Tx_statement_313
abbrev t_Tx_statement_308 : List UInt8 := 54 :: 5 :: t_Tx_statement_310
abbrev t_Tx_statement_305 : List UInt8 := 182 :: 1 :: 11 :: t_Tx_statement_308
abbrev t_Tx_statement_302 : List UInt8 := 182 :: 1 :: 14 :: t_Tx_statement_305
abbrev t_Tx_statement_301 : List UInt8 := 42 :: t_Tx_statement_302
abbrev t_Tx_statement_300 : List UInt8 := 42 :: t_Tx_statement_301
abbrev t_Tx_statement_297 : List UInt8 := 160 :: 1 :: 34 :: t_Tx_statement_300
abbrev t_Tx_statement_295 : List UInt8 := 16 :: 123 :: t_Tx_statement_297
abbrev t_Tx_statement_292 : List UInt8 := 180 :: 0 :: 146 :: t_Tx_statement_295
abbrev t_Tx_statement_291 : List UInt8 := 42 :: t_Tx_statement_292
abbrev t_Tx_statement_288 : List UInt8 := 153 :: 1 :: 43 :: t_Tx_statement_291
abbrev t_Tx_statement_286 : List UInt8 := 21 :: 5 :: t_Tx_statement_288
abbrev t_Tx_statement_284 : List UInt8 := 54 :: 5 :: t_Tx_statement_286
abbrev t_Tx_statement_283 : List UInt8 := 3 :: t_Tx_statement_284
abbrev t_Tx_statement_280 : List UInt8 := 167 :: 0 :: 4 :: t_Tx_statement_283
abbrev t_Tx_statement_279 : List UInt8 := 4 :: t_Tx_statement_280
abbrev t_Tx_statement_276 : List UInt8 := 153 :: 0 :: 7 :: t_Tx_statement_279
abbrev t_Tx_statement_273 : List UInt8 := 182 :: 1 :: 11 :: t_Tx_statement_276
abbrev t_Tx_statement_270 : List UInt8 := 182 :: 1 :: 14 :: t_Tx_statement_273
abbrev t_Tx_statement_269 : List UInt8 := 42 :: t_Tx_statement_270
abbrev t_Tx_statement_268 : List UInt8 := 42 :: t_Tx_statement_269
abbrev t_Tx_statement_265 : List UInt8 := 153 :: 0 :: 18 :: t_Tx_statement_268
abbrev t_Tx_statement_262 : List UInt8 := 182 :: 1 :: 11 :: t_Tx_statement_265
abbrev t_Tx_statement_259 : List UInt8 := 182 :: 1 :: 14 :: t_Tx_statement_262
abbrev t_Tx_statement_258 : List UInt8 := 42 :: t_Tx_statement_259
abbrev t_Tx_statement_257 : List UInt8 := 42 :: t_Tx_statement_258
abbrev t_Tx_statement_254 : List UInt8 := 167 :: 1 :: 77 :: t_Tx_statement_257
abbrev t_Tx_statement_252 : List UInt8 := 54 :: 5 :: t_Tx_statement_254
abbrev t_Tx_statement_251 : List UInt8 := 3 :: t_Tx_statement_252
abbrev t_Tx_statement_248 : List UInt8 := 167 :: 0 :: 4 :: t_Tx_statement_251
abbrev t_Tx_statement_247 : List UInt8 := 4 :: t_Tx_statement_248
abbrev t_Tx_statement_244 : List UInt8 := 153 :: 0 :: 7 :: t_Tx_statement_247
abbrev t_Tx_statement_241 : List UInt8 := 182 :: 0 :: 234 :: t_Tx_statement_244
abbrev t_Tx_statement_239 : List UInt8 := 16 :: 59 :: t_Tx_statement_241
abbrev t_Tx_statement_238 : List UInt8 := 42 :: t_Tx_statement_239
abbrev t_Tx_statement_235 : List UInt8 := 153 :: 0 :: 16 :: t_Tx_statement_238
abbrev t_Tx_statement_232 : List UInt8 := 182 :: 1 :: 11 :: t_Tx_statement_235
abbrev t_Tx_statement_229 : List UInt8 := 182 :: 1 :: 8 :: t_Tx_statement_232
abbrev t_Tx_statement_228 : List UInt8 := 42 :: t_Tx_statement_229
abbrev t_Tx_statement_227 : List UInt8 := 42 :: t_Tx_statement_228
abbrev t_Tx_statement_224 : List UInt8 := 167 :: 1 :: 107 :: t_Tx_statement_227
abbrev t_Tx_statement_222 : List UInt8 := 54 :: 5 :: t_Tx_statement_224
abbrev t_Tx_statement_221 : List UInt8 := 3 :: t_Tx_statement_222
abbrev t_Tx_statement_218 : List UInt8 := 167 :: 0 :: 4 :: t_Tx_statement_221
abbrev t_Tx_statement_217 : List UInt8 := 4 :: t_Tx_statement_218
abbrev t_Tx_statement_214 : List UInt8 := 153 :: 0 :: 7 :: t_Tx_statement_217
abbrev t_Tx_statement_211 : List UInt8 := 182 :: 0 :: 234 :: t_Tx_statement_214
abbrev t_Tx_statement_209 : List UInt8 := 16 :: 59 :: t_Tx_statement_211
abbrev t_Tx_statement_208 : List UInt8 := 42 :: t_Tx_statement_209
abbrev t_Tx_statement_205 : List UInt8 := 153 :: 0 :: 16 :: t_Tx_statement_208
abbrev t_Tx_statement_202 : List UInt8 := 182 :: 1 :: 5 :: t_Tx_statement_205
abbrev t_Tx_statement_201 : List UInt8 := 6 :: t_Tx_statement_202
abbrev t_Tx_statement_200 : List UInt8 := 42 :: t_Tx_statement_201
abbrev t_Tx_statement_197 : List UInt8 := 167 :: 1 :: 134 :: t_Tx_statement_200
abbrev t_Tx_statement_195 : List UInt8 := 54 :: 5 :: t_Tx_statement_197
abbrev t_Tx_statement_194 : List UInt8 := 3 :: t_Tx_statement_195
abbrev t_Tx_statement_191 : List UInt8 := 167 :: 0 :: 4 :: t_Tx_statement_194
abbrev t_Tx_statement_190 : List UInt8 := 4 :: t_Tx_statement_191
abbrev t_Tx_statement_187 : List UInt8 := 153 :: 0 :: 7 :: t_Tx_statement_190
abbrev t_Tx_statement_184 : List UInt8 := 182 :: 0 :: 234 :: t_Tx_statement_187
abbrev t_Tx_statement_182 : List UInt8 := 16 :: 59 :: t_Tx_statement_184
abbrev t_Tx_statement_181 : List UInt8 := 42 :: t_Tx_statement_182
abbrev t_Tx_statement_178 : List UInt8 := 153 :: 0 :: 16 :: t_Tx_statement_181
abbrev t_Tx_statement_175 : List UInt8 := 182 :: 1 :: 5 :: t_Tx_statement_178
abbrev t_Tx_statement_174 : List UInt8 := 6 :: t_Tx_statement_175
abbrev t_Tx_statement_173 : List UInt8 := 42 :: t_Tx_statement_174
abbrev t_Tx_statement_170 : List UInt8 := 153 :: 0 :: 24 :: t_Tx_statement_173
abbrev t_Tx_statement_167 : List UInt8 := 182 :: 0 :: 234 :: t_Tx_statement_170
abbrev t_Tx_statement_164 : List UInt8 := 17 :: 4 :: 8 :: t_Tx_statement_167
abbrev t_Tx_statement_163 : List UInt8 := 42 :: t_Tx_statement_164
abbrev t_Tx_statement_160 : List UInt8 := 159 :: 0 :: 21 :: t_Tx_statement_163
abbrev t_Tx_statement_158 : List UInt8 := 16 :: 10 :: t_Tx_statement_160
abbrev t_Tx_statement_157 : List UInt8 := 27 :: t_Tx_statement_158
abbrev t_Tx_statement_154 : List UInt8 := 153 :: 0 :: 40 :: t_Tx_statement_157
abbrev t_Tx_statement_151 : List UInt8 := 182 :: 1 :: 5 :: t_Tx_statement_154
abbrev t_Tx_statement_150 : List UInt8 := 46 :: t_Tx_statement_151
abbrev t_Tx_statement_149 : List UInt8 := 96 :: t_Tx_statement_150
abbrev t_Tx_statement_147 : List UInt8 := 21 :: 4 :: t_Tx_statement_149
abbrev t_Tx_statement_146 : List UInt8 := 104 :: t_Tx_statement_147
abbrev t_Tx_statement_145 : List UInt8 := 100 :: t_Tx_statement_146
abbrev t_Tx_statement_142 : List UInt8 := 180 :: 0 :: 186 :: t_Tx_statement_145
abbrev t_Tx_statement_141 : List UInt8 := 42 :: t_Tx_statement_142
abbrev t_Tx_statement_140 : List UInt8 := 4 :: t_Tx_statement_141
abbrev t_Tx_statement_138 : List UInt8 := 16 :: 40 :: t_Tx_statement_140
abbrev t_Tx_statement_135 : List UInt8 := 180 :: 0 :: 50 :: t_Tx_statement_138
abbrev t_Tx_statement_134 : List UInt8 := 42 :: t_Tx_statement_135
abbrev t_Tx_statement_133 : List UInt8 := 42 :: t_Tx_statement_134
abbrev t_Tx_statement_130 : List UInt8 := 155 :: 0 :: 64 :: t_Tx_statement_133
abbrev t_Tx_statement_128 : List UInt8 := 21 :: 4 :: t_Tx_statement_130
abbrev t_Tx_statement_126 : List UInt8 := 54 :: 4 :: t_Tx_statement_128
abbrev t_Tx_statement_123 : List UInt8 := 182 :: 1 :: 2 :: t_Tx_statement_126
abbrev t_Tx_statement_121 : List UInt8 := 16 :: 31 :: t_Tx_statement_123
abbrev t_Tx_statement_120 : List UInt8 := 42 :: t_Tx_statement_121
abbrev t_Tx_statement_52 : List UInt8 := 170 :: 0 :: 0 :: 0 :: 0 :: 0 :: 2 :: 15 :: 0 :: 0 :: 0 :: 10 :: 0 :: 0 :: 0 :: 22 :: 0 :: 0 :: 0 :: 68 :: 0 :: 0 :: 0 :: 148 :: 0 :: 0 :: 0 :: 175 :: 0 :: 0 :: 0 :: 68 :: 0 :: 0 :: 0 :: 205 :: 0 :: 0 :: 1 :: 5 :: 0 :: 0 :: 1 :: 76 :: 0 :: 0 :: 1 :: 105 :: 0 :: 0 :: 1 :: 158 :: 0 :: 0 :: 1 :: 158 :: 0 :: 0 :: 2 :: 15 :: 0 :: 0 :: 2 :: 15 :: 0 :: 0 :: 1 :: 201 :: t_Tx_statement_120
abbrev t_Tx_statement_51 : List UInt8 := 27 :: t_Tx_statement_52
abbrev t_Tx_statement_49 : List UInt8 := 54 :: 5 :: t_Tx_statement_51
abbrev t_Tx_statement_48 : List UInt8 := 4 :: t_Tx_statement_49
abbrev t_Tx_statement_46 : List UInt8 := 54 :: 4 :: t_Tx_statement_48
abbrev t_Tx_statement_45 : List UInt8 := 3 :: t_Tx_statement_46
abbrev t_Tx_statement_44 : List UInt8 := 62 :: t_Tx_statement_45
abbrev t_Tx_statement_41 : List UInt8 := 180 :: 0 :: 201 :: t_Tx_statement_44
abbrev t_Tx_statement_40 : List UInt8 := 42 :: t_Tx_statement_41
abbrev t_Tx_statement_39 : List UInt8 := 172 :: t_Tx_statement_40
abbrev t_Tx_statement_38 : List UInt8 := 2 :: t_Tx_statement_39
abbrev t_Tx_statement_35 : List UInt8 := 154 :: 0 :: 5 :: t_Tx_statement_38
abbrev t_Tx_statement_32 : List UInt8 := 182 :: 0 :: 182 :: t_Tx_statement_35
abbrev t_Tx_statement_31 : List UInt8 := 42 :: t_Tx_statement_32
abbrev t_Tx_statement_30 : List UInt8 := 172 :: t_Tx_statement_31
abbrev t_Tx_statement_27 : List UInt8 := 182 :: 0 :: 192 :: t_Tx_statement_30
abbrev t_Tx_statement_26 : List UInt8 := 42 :: t_Tx_statement_27
abbrev t_Tx_statement_23 : List UInt8 := 164 :: 0 :: 8 :: t_Tx_statement_26
abbrev t_Tx_statement_21 : List UInt8 := 16 :: 22 :: t_Tx_statement_23
abbrev t_Tx_statement_20 : List UInt8 := 27 :: t_Tx_statement_21
abbrev t_Tx_statement_17 : List UInt8 := 161 :: 0 :: 9 :: t_Tx_statement_20
abbrev t_Tx_statement_15 : List UInt8 := 16 :: 10 :: t_Tx_statement_17
abbrev t_Tx_statement_14 : List UInt8 := 27 :: t_Tx_statement_15
abbrev t_Tx_statement_13 : List UInt8 := 61 :: t_Tx_statement_14
abbrev t_Tx_statement_10 : List UInt8 := 180 :: 0 :: 143 :: t_Tx_statement_13
abbrev t_Tx_statement_9 : List UInt8 := 42 :: t_Tx_statement_10
abbrev t_Tx_statement_8 : List UInt8 := 60 :: t_Tx_statement_9
abbrev t_Tx_statement_7 : List UInt8 := 100 :: t_Tx_statement_8
abbrev t_Tx_statement_4 : List UInt8 := 17 :: 3 :: 232 :: t_Tx_statement_7
abbrev t_Tx_statement_1 : List UInt8 := 180 :: 0 :: 146 :: t_Tx_statement_4
abbrev t_Tx_statement_0 : List UInt8 := 42 :: t_Tx_statement_1
theorem a_Tx_statement_0 : dk_at b_Tx_statement 0 t_Tx_statement_0 := dk_start (by decide +kernel)
theorem a_Tx_statement_1 : dk_at b_Tx_statement 1 t_Tx_statement_1 := dk_go 1 a_Tx_statement_0 rfl
theorem a_Tx_statement_4 : dk_at b_Tx_statement 4 t_Tx_statement_4 := dk_go 3 a_Tx_statement_1 rfl
theorem a_Tx_statement_7 : dk_at b_Tx_statement 7 t_Tx_statement_7 := dk_go 3 a_Tx_statement_4 rfl
theorem a_Tx_statement_8 : dk_at b_Tx_statement 8 t_Tx_statement_8 := dk_go 1 a_Tx_statement_7 rfl
theorem a_Tx_statement_9 : dk_at b_Tx_statement 9 t_Tx_statement_9 := dk_go 1 a_Tx_statement_8 rfl
theorem a_Tx_statement_10 : dk_at b_Tx_statement 10 t_Tx_statement_10 := dk_go 1 a_Tx_statement_9 rfl
theorem a_Tx_statement_13 : dk_at b_Tx_statement 13 t_Tx_statement_13 := dk_go 3 a_Tx_statement_10 rfl
theorem a_Tx_statement_14 : dk_at b_Tx_statement 14 t_Tx_statement_14 := dk_go 1 a_Tx_statement_13 rfl
theorem a_Tx_statement_15 : dk_at b_Tx_statement 15 t_Tx_statement_15 := dk_go 1 a_Tx_statement_14 rfl
theorem a_Tx_statement_17 : dk_at b_Tx_statement 17 t_Tx_statement_17 := dk_go 2 a_Tx_statement_15 rfl
theorem a_Tx_statement_20 : dk_at b_Tx_statement 20 t_Tx_statement_20 := dk_go 3 a_Tx_statement_17 rfl
theorem a_Tx_statement_21 : dk_at b_Tx_statement 21 t_Tx_statement_21 := dk_go 1 a_Tx_statement_20 rfl
theorem a_Tx_statement_23 : dk_at b_Tx_statement 23 t_Tx_statement_23 := dk_go 2 a_Tx_statement_21 rfl
theorem a_Tx_statement_26 : dk_at b_Tx_statement 26 t_Tx_statement_26 := dk_go 3 a_Tx_statement_23 rfl
theorem a_Tx_statement_27 : dk_at b_Tx_statement 27 t_Tx_statement_27 := dk_go 1 a_Tx_statement_26 rfl
theorem a_Tx_statement_30 : dk_at b_Tx_statement 30 t_Tx_statement_30 := dk_go 3 a_Tx_statement_27 rfl
theorem a_Tx_statement_31 : dk_at b_Tx_statement 31 t_Tx_statement_31 := dk_go 1 a_Tx_statement_30 rfl
theorem a_Tx_statement_32 : dk_at b_Tx_statement 32 t_Tx_statement_32 := dk_go 1 a_Tx_statement_31 rfl
theorem a_Tx_statement_35 : dk_at b_Tx_statement 35 t_Tx_statement_35 := dk_go 3 a_Tx_statement_32 rfl
theorem a_Tx_statement_38 : dk_at b_Tx_statement 38 t_Tx_statement_38 := dk_go 3 a_Tx_statement_35 rfl
theorem a_Tx_statement_39 : dk_at b_Tx_statement 39 t_Tx_statement_39 := dk_go 1 a_Tx_statement_38 rfl
theorem a_Tx_statement_40 : dk_at b_Tx_statement 40 t_Tx_statement_40 := dk_go 1 a_Tx_statement_39 rfl
theorem a_Tx_statement_41 : dk_at b_Tx_statement 41 t_Tx_statement_41 := dk_go 1 a_Tx_statement_40 rfl
theorem a_Tx_statement_44 : dk_at b_Tx_statement 44 t_Tx_statement_44 := dk_go 3 a_Tx_statement_41 rfl
theorem a_Tx_statement_45 : dk_at b_Tx_statement 45 t_Tx_statement_45 := dk_go 1 a_Tx_statement_44 rfl
theorem a_Tx_statement_46 : dk_at b_Tx_statement 46 t_Tx_statement_46 := dk_go 1 a_Tx_statement_45 rfl
theorem a_Tx_statement_48 : dk_at b_Tx_statement 48 t_Tx_statement_48 := dk_go 2 a_Tx_statement_46 rfl
theorem a_Tx_statement_49 : dk_at b_Tx_statement 49 t_Tx_statement_49 := dk_go 1 a_Tx_statement_48 rfl
theorem a_Tx_statement_51 : dk_at b_Tx_statement 51 t_Tx_statement_51 := dk_go 2 a_Tx_statement_49 rfl
theorem a_Tx_statement_52 : dk_at b_Tx_statement 52 t_Tx_statement_52 := dk_go 1 a_Tx_statement_51 rfl
theorem a_Tx_statement_120 : dk_at b_Tx_statement 120 t_Tx_statement_120 := dk_go 68 a_Tx_statement_52 rfl
theorem a_Tx_statement_121 : dk_at b_Tx_statement 121 t_Tx_statement_121 := dk_go 1 a_Tx_statement_120 rfl
theorem a_Tx_statement_123 : dk_at b_Tx_statement 123 t_Tx_statement_123 := dk_go 2 a_Tx_statement_121 rfl
theorem a_Tx_statement_126 : dk_at b_Tx_statement 126 t_Tx_statement_126 := dk_go 3 a_Tx_statement_123 rfl
theorem a_Tx_statement_128 : dk_at b_Tx_statement 128 t_Tx_statement_128 := dk_go 2 a_Tx_statement_126 rfl
theorem a_Tx_statement_130 : dk_at b_Tx_statement 130 t_Tx_statement_130 := dk_go 2 a_Tx_statement_128 rfl
theorem a_Tx_statement_133 : dk_at b_Tx_statement 133 t_Tx_statement_133 := dk_go 3 a_Tx_statement_130 rfl
theorem a_Tx_statement_134 : dk_at b_Tx_statement 134 t_Tx_statement_134 := dk_go 1 a_Tx_statement_133 rfl
theorem a_Tx_statement_135 : dk_at b_Tx_statement 135 t_Tx_statement_135 := dk_go 1 a_Tx_statement_134 rfl
theorem a_Tx_statement_138 : dk_at b_Tx_statement 138 t_Tx_statement_138 := dk_go 3 a_Tx_statement_135 rfl
theorem a_Tx_statement_140 : dk_at b_Tx_statement 140 t_Tx_statement_140 := dk_go 2 a_Tx_statement_138 rfl
theorem a_Tx_statement_141 : dk_at b_Tx_statement 141 t_Tx_statement_141 := dk_go 1 a_Tx_statement_140 rfl
theorem a_Tx_statement_142 : dk_at b_Tx_statement 142 t_Tx_statement_142 := dk_go 1 a_Tx_statement_141 rfl
theorem a_Tx_statement_145 : dk_at b_Tx_statement 145 t_Tx_statement_145 := dk_go 3 a_Tx_statement_142 rfl
theorem a_Tx_statement_146 : dk_at b_Tx_statement 146 t_Tx_statement_146 := dk_go 1 a_Tx_statement_145 rfl
theorem a_Tx_statement_147 : dk_at b_Tx_statement 147 t_Tx_statement_147 := dk_go 1 a_Tx_statement_146 rfl
theorem a_Tx_statement_149 : dk_at b_Tx_statement 149 t_Tx_statement_149 := dk_go 2 a_Tx_statement_147 rfl
theorem a_Tx_statement_150 : dk_at b_Tx_statement 150 t_Tx_statement_150 := dk_go 1 a_Tx_statement_149 rfl
theorem a_Tx_statement_151 : dk_at b_Tx_statement 151 t_Tx_statement_151 := dk_go 1 a_Tx_statement_150 rfl
theorem a_Tx_statement_154 : dk_at b_Tx_statement 154 t_Tx_statement_154 := dk_go 3 a_Tx_statement_151 rfl
theorem a_Tx_statement_157 : dk_at b_Tx_statement 157 t_Tx_statement_157 := dk_go 3 a_Tx_statement_154 rfl
theorem a_Tx_statement_158 : dk_at b_Tx_statement 158 t_Tx_statement_158 := dk_go 1 a_Tx_statement_157 rfl
theorem a_Tx_statement_160 : dk_at b_Tx_statement 160 t_Tx_statement_160 := dk_go 2 a_Tx_statement_158 rfl
theorem a_Tx_statement_163 : dk_at b_Tx_statement 163 t_Tx_statement_163 := dk_go 3 a_Tx_statement_160 rfl
theorem a_Tx_statement_164 : dk_at b_Tx_statement 164 t_Tx_statement_164 := dk_go 1 a_Tx_statement_163 rfl
theorem a_Tx_statement_167 : dk_at b_Tx_statement 167 t_Tx_statement_167 := dk_go 3 a_Tx_statement_164 rfl
theorem a_Tx_statement_170 : dk_at b_Tx_statement 170 t_Tx_statement_170 := dk_go 3 a_Tx_statement_167 rfl
theorem a_Tx_statement_173 : dk_at b_Tx_statement 173 t_Tx_statement_173 := dk_go 3 a_Tx_statement_170 rfl
theorem a_Tx_statement_174 : dk_at b_Tx_statement 174 t_Tx_statement_174 := dk_go 1 a_Tx_statement_173 rfl
theorem a_Tx_statement_175 : dk_at b_Tx_statement 175 t_Tx_statement_175 := dk_go 1 a_Tx_statement_174 rfl
theorem a_Tx_statement_178 : dk_at b_Tx_statement 178 t_Tx_statement_178 := dk_go 3 a_Tx_statement_175 rfl
theorem a_Tx_statement_181 : dk_at b_Tx_statement 181 t_Tx_statement_181 := dk_go 3 a_Tx_statement_178 rfl
theorem a_Tx_statement_182 : dk_at b_Tx_statement 182 t_Tx_statement_182 := dk_go 1 a_Tx_statement_181 rfl
theorem a_Tx_statement_184 : dk_at b_Tx_statement 184 t_Tx_statement_184 := dk_go 2 a_Tx_statement_182 rfl
theorem a_Tx_statement_187 : dk_at b_Tx_statement 187 t_Tx_statement_187 := dk_go 3 a_Tx_statement_184 rfl
theorem a_Tx_statement_190 : dk_at b_Tx_statement 190 t_Tx_statement_190 := dk_go 3 a_Tx_statement_187 rfl
theorem a_Tx_statement_191 : dk_at b_Tx_statement 191 t_Tx_statement_191 := dk_go 1 a_Tx_statement_190 rfl
theorem a_Tx_statement_194 : dk_at b_Tx_statement 194 t_Tx_statement_194 := dk_go 3 a_Tx_statement_191 rfl
theorem a_Tx_statement_195 : dk_at b_Tx_statement 195 t_Tx_statement_195 := dk_go 1 a_Tx_statement_194 rfl
theorem a_Tx_statement_197 : dk_at b_Tx_statement 197 t_Tx_statement_197 := dk_go 2 a_Tx_statement_195 rfl
theorem a_Tx_statement_200 : dk_at b_Tx_statement 200 t_Tx_statement_200 := dk_go 3 a_Tx_statement_197 rfl
theorem a_Tx_statement_201 : dk_at b_Tx_statement 201 t_Tx_statement_201 := dk_go 1 a_Tx_statement_200 rfl
theorem a_Tx_statement_202 : dk_at b_Tx_statement 202 t_Tx_statement_202 := dk_go 1 a_Tx_statement_201 rfl
theorem a_Tx_statement_205 : dk_at b_Tx_statement 205 t_Tx_statement_205 := dk_go 3 a_Tx_statement_202 rfl
theorem a_Tx_statement_208 : dk_at b_Tx_statement 208 t_Tx_statement_208 := dk_go 3 a_Tx_statement_205 rfl
theorem a_Tx_statement_209 : dk_at b_Tx_statement 209 t_Tx_statement_209 := dk_go 1 a_Tx_statement_208 rfl
theorem a_Tx_statement_211 : dk_at b_Tx_statement 211 t_Tx_statement_211 := dk_go 2 a_Tx_statement_209 rfl
theorem a_Tx_statement_214 : dk_at b_Tx_statement 214 t_Tx_statement_214 := dk_go 3 a_Tx_statement_211 rfl
theorem a_Tx_statement_217 : dk_at b_Tx_statement 217 t_Tx_statement_217 := dk_go 3 a_Tx_statement_214 rfl
theorem a_Tx_statement_218 : dk_at b_Tx_statement 218 t_Tx_statement_218 := dk_go 1 a_Tx_statement_217 rfl
theorem a_Tx_statement_221 : dk_at b_Tx_statement 221 t_Tx_statement_221 := dk_go 3 a_Tx_statement_218 rfl
theorem a_Tx_statement_222 : dk_at b_Tx_statement 222 t_Tx_statement_222 := dk_go 1 a_Tx_statement_221 rfl
theorem a_Tx_statement_224 : dk_at b_Tx_statement 224 t_Tx_statement_224 := dk_go 2 a_Tx_statement_222 rfl
theorem a_Tx_statement_227 : dk_at b_Tx_statement 227 t_Tx_statement_227 := dk_go 3 a_Tx_statement_224 rfl
theorem a_Tx_statement_228 : dk_at b_Tx_statement 228 t_Tx_statement_228 := dk_go 1 a_Tx_statement_227 rfl
theorem a_Tx_statement_229 : dk_at b_Tx_statement 229 t_Tx_statement_229 := dk_go 1 a_Tx_statement_228 rfl
theorem a_Tx_statement_232 : dk_at b_Tx_statement 232 t_Tx_statement_232 := dk_go 3 a_Tx_statement_229 rfl
theorem a_Tx_statement_235 : dk_at b_Tx_statement 235 t_Tx_statement_235 := dk_go 3 a_Tx_statement_232 rfl
theorem a_Tx_statement_238 : dk_at b_Tx_statement 238 t_Tx_statement_238 := dk_go 3 a_Tx_statement_235 rfl
theorem a_Tx_statement_239 : dk_at b_Tx_statement 239 t_Tx_statement_239 := dk_go 1 a_Tx_statement_238 rfl
theorem a_Tx_statement_241 : dk_at b_Tx_statement 241 t_Tx_statement_241 := dk_go 2 a_Tx_statement_239 rfl
theorem a_Tx_statement_244 : dk_at b_Tx_statement 244 t_Tx_statement_244 := dk_go 3 a_Tx_statement_241 rfl
theorem a_Tx_statement_247 : dk_at b_Tx_statement 247 t_Tx_statement_247 := dk_go 3 a_Tx_statement_244 rfl
theorem a_Tx_statement_248 : dk_at b_Tx_statement 248 t_Tx_statement_248 := dk_go 1 a_Tx_statement_247 rfl
theorem a_Tx_statement_251 : dk_at b_Tx_statement 251 t_Tx_statement_251 := dk_go 3 a_Tx_statement_248 rfl
theorem a_Tx_statement_252 : dk_at b_Tx_statement 252 t_Tx_statement_252 := dk_go 1 a_Tx_statement_251 rfl
theorem a_Tx_statement_254 : dk_at b_Tx_statement 254 t_Tx_statement_254 := dk_go 2 a_Tx_statement_252 rfl
theorem a_Tx_statement_257 : dk_at b_Tx_statement 257 t_Tx_statement_257 := dk_go 3 a_Tx_statement_254 rfl
theorem a_Tx_statement_258 : dk_at b_Tx_statement 258 t_Tx_statement_258 := dk_go 1 a_Tx_statement_257 rfl
theorem a_Tx_statement_259 : dk_at b_Tx_statement 259 t_Tx_statement_259 := dk_go 1 a_Tx_statement_258 rfl
theorem a_Tx_statement_262 : dk_at b_Tx_statement 262 t_Tx_statement_262 := dk_go 3 a_Tx_statement_259 rfl
theorem a_Tx_statement_265 : dk_at b_Tx_statement 265 t_Tx_statement_265 := dk_go 3 a_Tx_statement_262 rfl
theorem a_Tx_statement_268 : dk_at b_Tx_statement 268 t_Tx_statement_268 := dk_go 3 a_Tx_statement_265 rfl
theorem a_Tx_statement_269 : dk_at b_Tx_statement 269 t_Tx_statement_269 := dk_go 1 a_Tx_statement_268 rfl
theorem a_Tx_statement_270 : dk_at b_Tx_statement 270 t_Tx_statement_270 := dk_go 1 a_Tx_statement_269 rfl
theorem a_Tx_statement_273 : dk_at b_Tx_statement 273 t_Tx_statement_273 := dk_go 3 a_Tx_statement_270 rfl
theorem a_Tx_statement_276 : dk_at b_Tx_statement 276 t_Tx_statement_276 := dk_go 3 a_Tx_statement_273 rfl
theorem a_Tx_statement_279 : dk_at b_Tx_statement 279 t_Tx_statement_279 := dk_go 3 a_Tx_statement_276 rfl
theorem a_Tx_statement_280 : dk_at b_Tx_statement 280 t_Tx_statement_280 := dk_go 1 a_Tx_statement_279 rfl
theorem a_Tx_statement_283 : dk_at b_Tx_statement 283 t_Tx_statement_283 := dk_go 3 a_Tx_statement_280 rfl
theorem a_Tx_statement_284 : dk_at b_Tx_statement 284 t_Tx_statement_284 := dk_go 1 a_Tx_statement_283 rfl
theorem a_Tx_statement_286 : dk_at b_Tx_statement 286 t_Tx_statement_286 := dk_go 2 a_Tx_statement_284 rfl
theorem a_Tx_statement_288 : dk_at b_Tx_statement 288 t_Tx_statement_288 := dk_go 2 a_Tx_statement_286 rfl
theorem a_Tx_statement_291 : dk_at b_Tx_statement 291 t_Tx_statement_291 := dk_go 3 a_Tx_statement_288 rfl
theorem a_Tx_statement_292 : dk_at b_Tx_statement 292 t_Tx_statement_292 := dk_go 1 a_Tx_statement_291 rfl
theorem a_Tx_statement_295 : dk_at b_Tx_statement 295 t_Tx_statement_295 := dk_go 3 a_Tx_statement_292 rfl
theorem a_Tx_statement_297 : dk_at b_Tx_statement 297 t_Tx_statement_297 := dk_go 2 a_Tx_statement_295 rfl
theorem a_Tx_statement_300 : dk_at b_Tx_statement 300 t_Tx_statement_300 := dk_go 3 a_Tx_statement_297 rfl
theorem a_Tx_statement_301 : dk_at b_Tx_statement 301 t_Tx_statement_301 := dk_go 1 a_Tx_statement_300 rfl
theorem a_Tx_statement_302 : dk_at b_Tx_statement 302 t_Tx_statement_302 := dk_go 1 a_Tx_statement_301 rfl
theorem a_Tx_statement_305 : dk_at b_Tx_statement 305 t_Tx_statement_305 := dk_go 3 a_Tx_statement_302 rfl
theorem a_Tx_statement_308 : dk_at b_Tx_statement 308 t_Tx_statement_308 := dk_go 3 a_Tx_statement_305 rfl
theorem a_Tx_statement_310 : dk_at b_Tx_statement 310 t_Tx_statement_310 := dk_go 2 a_Tx_statement_308 rfl
theorem a_Tx_statement_313 : dk_at b_Tx_statement 313 t_Tx_statement_313 := dk_go 3 a_Tx_statement_310 rfl
theorem a_Tx_statement_314 : dk_at b_Tx_statement 314 t_Tx_statement_314 := dk_go 1 a_Tx_statement_313 rfl
theorem a_Tx_statement_315 : dk_at b_Tx_statement 315 t_Tx_statement_315 := dk_go 1 a_Tx_statement_314 rfl
theorem a_Tx_statement_318 : dk_at b_Tx_statement 318 t_Tx_statement_318 := dk_go 3 a_Tx_statement_315 rfl
theorem a_Tx_statement_321 : dk_at b_Tx_statement 321 t_Tx_statement_321 := dk_go 3 a_Tx_statement_318 rfl
theorem a_Tx_statement_324 : dk_at b_Tx_statement 324 t_Tx_statement_324 := dk_go 3 a_Tx_statement_321 rfl
theorem a_Tx_statement_325 : dk_at b_Tx_statement 325 t_Tx_statement_325 := dk_go 1 a_Tx_statement_324 rfl
theorem a_Tx_statement_326 : dk_at b_Tx_statement 326 t_Tx_statement_326 := dk_go 1 a_Tx_statement_325 rfl
theorem a_Tx_statement_329 : dk_at b_Tx_statement 329 t_Tx_statement_329 := dk_go 3 a_Tx_statement_326 rfl
theorem a_Tx_statement_332 : dk_at b_Tx_statement 332 t_Tx_statement_332 := dk_go 3 a_Tx_statement_329 rfl
theorem a_Tx_statement_335 : dk_at b_Tx_statement 335 t_Tx_statement_335 := dk_go 3 a_Tx_statement_332 rfl
theorem a_Tx_statement_336 : dk_at b_Tx_statement 336 t_Tx_statement_336 := dk_go 1 a_Tx_statement_335 rfl
theorem a_Tx_statement_339 : dk_at b_Tx_statement 339 t_Tx_statement_339 := dk_go 3 a_Tx_statement_336 rfl
theorem a_Tx_statement_340 : dk_at b_Tx_statement 340 t_Tx_statement_340 := dk_go 1 a_Tx_statement_339 rfl
theorem a_Tx_statement_342 : dk_at b_Tx_statement 342 t_Tx_statement_342 := dk_go 2 a_Tx_statement_340 rfl
theorem a_Tx_statement_344 : dk_at b_Tx_statement 344 t_Tx_statement_344 := dk_go 2 a_Tx_statement_342 rfl
theorem a_Tx_statement_347 : dk_at b_Tx_statement 347 t_Tx_statement_347 := dk_go 3 a_Tx_statement_344 rfl
theorem a_Tx_statement_348 : dk_at b_Tx_statement 348 t_Tx_statement_348 := dk_go 1 a_Tx_statement_347 rfl
theorem a_Tx_statement_350 : dk_at b_Tx_statement 350 t_Tx_statement_350 := dk_go 2 a_Tx_statement_348 rfl
theorem a_Tx_statement_353 : dk_at b_Tx_statement 353 t_Tx_statement_353 := dk_go 3 a_Tx_statement_350 rfl
theorem a_Tx_statement_356 : dk_at b_Tx_statement 356 t_Tx_statement_356 := dk_go 3 a_Tx_statement_353 rfl
theorem a_Tx_statement_357 : dk_at b_Tx_statement 357 t_Tx_statement_357 := dk_go 1 a_Tx_statement_356 rfl
theorem a_Tx_statement_360 : dk_at b_Tx_statement 360 t_Tx_statement_360 := dk_go 3 a_Tx_statement_357 rfl
theorem a_Tx_statement_363 : dk_at b_Tx_statement 363 t_Tx_statement_363 := dk_go 3 a_Tx_statement_360 rfl
theorem a_Tx_statement_364 : dk_at b_Tx_statement 364 t_Tx_statement_364 := dk_go 1 a_Tx_statement_363 rfl
theorem a_Tx_statement_365 : dk_at b_Tx_statement 365 t_Tx_statement_365 := dk_go 1 a_Tx_statement_364 rfl
theorem a_Tx_statement_368 : dk_at b_Tx_statement 368 t_Tx_statement_368 := dk_go 3 a_Tx_statement_365 rfl
theorem a_Tx_statement_371 : dk_at b_Tx_statement 371 t_Tx_statement_371 := dk_go 3 a_Tx_statement_368 rfl
theorem a_Tx_statement_374 : dk_at b_Tx_statement 374 t_Tx_statement_374 := dk_go 3 a_Tx_statement_371 rfl
theorem a_Tx_statement_375 : dk_at b_Tx_statement 375 t_Tx_statement_375 := dk_go 1 a_Tx_statement_374 rfl
theorem a_Tx_statement_378 : dk_at b_Tx_statement 378 t_Tx_statement_378 := dk_go 3 a_Tx_statement_375 rfl
theorem a_Tx_statement_379 : dk_at b_Tx_statement 379 t_Tx_statement_379 := dk_go 1 a_Tx_statement_378 rfl
theorem a_Tx_statement_381 : dk_at b_Tx_statement 381 t_Tx_statement_381 := dk_go 2 a_Tx_statement_379 rfl
theorem a_Tx_statement_384 : dk_at b_Tx_statement 384 t_Tx_statement_384 := dk_go 3 a_Tx_statement_381 rfl
theorem a_Tx_statement_385 : dk_at b_Tx_statement 385 t_Tx_statement_385 := dk_go 1 a_Tx_statement_384 rfl
theorem a_Tx_statement_386 : dk_at b_Tx_statement 386 t_Tx_statement_386 := dk_go 1 a_Tx_statement_385 rfl
theorem a_Tx_statement_389 : dk_at b_Tx_statement 389 t_Tx_statement_389 := dk_go 3 a_Tx_statement_386 rfl
theorem a_Tx_statement_392 : dk_at b_Tx_statement 392 t_Tx_statement_392 := dk_go 3 a_Tx_statement_389 rfl
theorem a_Tx_statement_393 : dk_at b_Tx_statement 393 t_Tx_statement_393 := dk_go 1 a_Tx_statement_392 rfl
theorem a_Tx_statement_394 : dk_at b_Tx_statement 394 t_Tx_statement_394 := dk_go 1 a_Tx_statement_393 rfl
theorem a_Tx_statement_397 : dk_at b_Tx_statement 397 t_Tx_statement_397 := dk_go 3 a_Tx_statement_394 rfl
theorem a_Tx_statement_400 : dk_at b_Tx_statement 400 t_Tx_statement_400 := dk_go 3 a_Tx_statement_397 rfl
theorem a_Tx_statement_403 : dk_at b_Tx_statement 403 t_Tx_statement_403 := dk_go 3 a_Tx_statement_400 rfl
theorem a_Tx_statement_404 : dk_at b_Tx_statement 404 t_Tx_statement_404 := dk_go 1 a_Tx_statement_403 rfl
theorem a_Tx_statement_407 : dk_at b_Tx_statement 407 t_Tx_statement_407 := dk_go 3 a_Tx_statement_404 rfl
theorem a_Tx_statement_408 : dk_at b_Tx_statement 408 t_Tx_statement_408 := dk_go 1 a_Tx_statement_407 rfl
theorem a_Tx_statement_410 : dk_at b_Tx_statement 410 t_Tx_statement_410 := dk_go 2 a_Tx_statement_408 rfl
theorem a_Tx_statement_413 : dk_at b_Tx_statement 413 t_Tx_statement_413 := dk_go 3 a_Tx_statement_410 rfl
theorem a_Tx_statement_414 : dk_at b_Tx_statement 414 t_Tx_statement_414 := dk_go 1 a_Tx_statement_413 rfl
theorem a_Tx_statement_415 : dk_at b_Tx_statement 415 t_Tx_statement_415 := dk_go 1 a_Tx_statement_414 rfl
theorem a_Tx_statement_418 : dk_at b_Tx_statement 418 t_Tx_statement_418 := dk_go 3 a_Tx_statement_415 rfl
theorem a_Tx_statement_421 : dk_at b_Tx_statement 421 t_Tx_statement_421 := dk_go 3 a_Tx_statement_418 rfl
theorem a_Tx_statement_424 : dk_at b_Tx_statement 424 t_Tx_statement_424 := dk_go 3 a_Tx_statement_421 rfl
theorem a_Tx_statement_425 : dk_at b_Tx_statement 425 t_Tx_statement_425 := dk_go 1 a_Tx_statement_424 rfl
theorem a_Tx_statement_426 : dk_at b_Tx_statement 426 t_Tx_statement_426 := dk_go 1 a_Tx_statement_425 rfl
theorem a_Tx_statement_429 : dk_at b_Tx_statement 429 t_Tx_statement_429 := dk_go 3 a_Tx_statement_426 rfl
theorem a_Tx_statement_432 : dk_at b_Tx_statement 432 t_Tx_statement_432 := dk_go 3 a_Tx_statement_429 rfl
theorem a_Tx_statement_435 : dk_at b_Tx_statement 435 t_Tx_statement_435 := dk_go 3 a_Tx_statement_432 rfl
theorem a_Tx_statement_436 : dk_at b_Tx_statement 436 t_Tx_statement_436 := dk_go 1 a_Tx_statement_435 rfl
theorem a_Tx_statement_439 : dk_at b_Tx_statement 439 t_Tx_statement_439 := dk_go 3 a_Tx_statement_436 rfl
theorem a_Tx_statement_442 : dk_at b_Tx_statement 442 t_Tx_statement_442 := dk_go 3 a_Tx_statement_439 rfl
theorem a_Tx_statement_445 : dk_at b_Tx_statement 445 t_Tx_statement_445 := dk_go 3 a_Tx_statement_442 rfl
theorem a_Tx_statement_446 : dk_at b_Tx_statement 446 t_Tx_statement_446 := dk_go 1 a_Tx_statement_445 rfl
theorem a_Tx_statement_447 : dk_at b_Tx_statement 447 t_Tx_statement_447 := dk_go 1 a_Tx_statement_446 rfl
theorem a_Tx_statement_450 : dk_at b_Tx_statement 450 t_Tx_statement_450 := dk_go 3 a_Tx_statement_447 rfl
theorem a_Tx_statement_453 : dk_at b_Tx_statement 453 t_Tx_statement_453 := dk_go 3 a_Tx_statement_450 rfl
theorem a_Tx_statement_456 : dk_at b_Tx_statement 456 t_Tx_statement_456 := dk_go 3 a_Tx_statement_453 rfl
theorem a_Tx_statement_457 : dk_at b_Tx_statement 457 t_Tx_statement_457 := dk_go 1 a_Tx_statement_456 rfl
theorem a_Tx_statement_460 : dk_at b_Tx_statement 460 t_Tx_statement_460 := dk_go 3 a_Tx_statement_457 rfl
theorem a_Tx_statement_461 : dk_at b_Tx_statement 461 t_Tx_statement_461 := dk_go 1 a_Tx_statement_460 rfl
theorem a_Tx_statement_463 : dk_at b_Tx_statement 463 t_Tx_statement_463 := dk_go 2 a_Tx_statement_461 rfl
theorem a_Tx_statement_466 : dk_at b_Tx_statement 466 t_Tx_statement_466 := dk_go 3 a_Tx_statement_463 rfl
theorem a_Tx_statement_467 : dk_at b_Tx_statement 467 t_Tx_statement_467 := dk_go 1 a_Tx_statement_466 rfl
theorem a_Tx_statement_468 : dk_at b_Tx_statement 468 t_Tx_statement_468 := dk_go 1 a_Tx_statement_467 rfl
theorem a_Tx_statement_470 : dk_at b_Tx_statement 470 t_Tx_statement_470 := dk_go 2 a_Tx_statement_468 rfl
theorem a_Tx_statement_473 : dk_at b_Tx_statement 473 t_Tx_statement_473 := dk_go 3 a_Tx_statement_470 rfl
theorem a_Tx_statement_475 : dk_at b_Tx_statement 475 t_Tx_statement_475 := dk_go 2 a_Tx_statement_473 rfl
theorem a_Tx_statement_478 : dk_at b_Tx_statement 478 t_Tx_statement_478 := dk_go 3 a_Tx_statement_475 rfl
theorem a_Tx_statement_480 : dk_at b_Tx_statement 480 t_Tx_statement_480 := dk_go 2 a_Tx_statement_478 rfl
theorem a_Tx_statement_483 : dk_at b_Tx_statement 483 t_Tx_statement_483 := dk_go 3 a_Tx_statement_480 rfl
theorem a_Tx_statement_485 : dk_at b_Tx_statement 485 t_Tx_statement_485 := dk_go 2 a_Tx_statement_483 rfl
theorem a_Tx_statement_487 : dk_at b_Tx_statement 487 t_Tx_statement_487 := dk_go 2 a_Tx_statement_485 rfl
theorem a_Tx_statement_490 : dk_at b_Tx_statement 490 t_Tx_statement_490 := dk_go 3 a_Tx_statement_487 rfl
theorem a_Tx_statement_491 : dk_at b_Tx_statement 491 t_Tx_statement_491 := dk_go 1 a_Tx_statement_490 rfl
theorem a_Tx_statement_493 : dk_at b_Tx_statement 493 t_Tx_statement_493 := dk_go 2 a_Tx_statement_491 rfl
theorem a_Tx_statement_496 : dk_at b_Tx_statement 496 t_Tx_statement_496 := dk_go 3 a_Tx_statement_493 rfl
theorem a_Tx_statement_499 : dk_at b_Tx_statement 499 t_Tx_statement_499 := dk_go 3 a_Tx_statement_496 rfl
theorem a_Tx_statement_500 : dk_at b_Tx_statement 500 t_Tx_statement_500 := dk_go 1 a_Tx_statement_499 rfl
theorem a_Tx_statement_503 : dk_at b_Tx_statement 503 t_Tx_statement_503 := dk_go 3 a_Tx_statement_500 rfl
theorem a_Tx_statement_504 : dk_at b_Tx_statement 504 t_Tx_statement_504 := dk_go 1 a_Tx_statement_503 rfl
theorem a_Tx_statement_506 : dk_at b_Tx_statement 506 t_Tx_statement_506 := dk_go 2 a_Tx_statement_504 rfl
theorem a_Tx_statement_509 : dk_at b_Tx_statement 509 t_Tx_statement_509 := dk_go 3 a_Tx_statement_506 rfl
theorem a_Tx_statement_510 : dk_at b_Tx_statement 510 t_Tx_statement_510 := dk_go 1 a_Tx_statement_509 rfl
theorem a_Tx_statement_513 : dk_at b_Tx_statement 513 t_Tx_statement_513 := dk_go 3 a_Tx_statement_510 rfl
theorem a_Tx_statement_516 : dk_at b_Tx_statement 516 t_Tx_statement_516 := dk_go 3 a_Tx_statement_513 rfl
theorem a_Tx_statement_519 : dk_at b_Tx_statement 519 t_Tx_statement_519 := dk_go 3 a_Tx_statement_516 rfl
theorem a_Tx_statement_520 : dk_at b_Tx_statement 520 t_Tx_statement_520 := dk_go 1 a_Tx_statement_519 rfl
theorem a_Tx_statement_523 : dk_at b_Tx_statement 523 t_Tx_statement_523 := dk_go 3 a_Tx_statement_520 rfl
theorem a_Tx_statement_526 : dk_at b_Tx_statement 526 t_Tx_statement_526 := dk_go 3 a_Tx_statement_523 rfl
theorem a_Tx_statement_527 : dk_at b_Tx_statement 527 t_Tx_statement_527 := dk_go 1 a_Tx_statement_526 rfl
theorem a_Tx_statement_530 : dk_at b_Tx_statement 530 t_Tx_statement_530 := dk_go 3 a_Tx_statement_527 rfl
theorem a_Tx_statement_533 : dk_at b_Tx_statement 533 t_Tx_statement_533 := dk_go 3 a_Tx_statement_530 rfl
theorem a_Tx_statement_534 : dk_at b_Tx_statement 534 t_Tx_statement_534 := dk_go 1 a_Tx_statement_533 rfl
theorem a_Tx_statement_537 : dk_at b_Tx_statement 537 t_Tx_statement_537 := dk_go 3 a_Tx_statement_534 rfl
theorem a_Tx_statement_538 : dk_at b_Tx_statement 538 t_Tx_statement_538 := dk_go 1 a_Tx_statement_537 rfl
theorem a_Tx_statement_541 : dk_at b_Tx_statement 541 t_Tx_statement_541 := dk_go 3 a_Tx_statement_538 rfl
theorem a_Tx_statement_542 : dk_at b_Tx_statement 542 t_Tx_statement_542 := dk_go 1 a_Tx_statement_541 rfl
theorem a_Tx_statement_543 : dk_at b_Tx_statement 543 t_Tx_statement_543 := dk_go 1 a_Tx_statement_542 rfl
theorem a_Tx_statement_546 : dk_at b_Tx_statement 546 t_Tx_statement_546 := dk_go 3 a_Tx_statement_543 rfl
theorem a_Tx_statement_549 : dk_at b_Tx_statement 549 t_Tx_statement_549 := dk_go 3 a_Tx_statement_546 rfl
theorem a_Tx_statement_550 : dk_at b_Tx_statement 550 t_Tx_statement_550 := dk_go 1 a_Tx_statement_549 rfl
theorem a_Tx_statement_551 : dk_at b_Tx_statement 551 t_Tx_statement_551 := dk_go 1 a_Tx_statement_550 rfl
theorem a_Tx_statement_553 : dk_at b_Tx_statement 553 t_Tx_statement_553 := dk_go 2 a_Tx_statement_551 rfl
theorem a_Tx_statement_554 : dk_at b_Tx_statement 554 t_Tx_statement_554 := dk_go 1 a_Tx_statement_553 rfl
theorem a_Tx_statement_557 : dk_at b_Tx_statement 557 t_Tx_statement_557 := dk_go 3 a_Tx_statement_554 rfl
theorem a_Tx_statement_560 : dk_at b_Tx_statement 560 t_Tx_statement_560 := dk_go 3 a_Tx_statement_557 rfl
theorem a_Tx_statement_561 : dk_at b_Tx_statement 561 t_Tx_statement_561 := dk_go 1 a_Tx_statement_560 rfl
theorem a_Tx_statement_563 : dk_at b_Tx_statement 563 t_Tx_statement_563 := dk_go 2 a_Tx_statement_561 rfl
theorem a_Tx_statement_566 : dk_at b_Tx_statement 566 t_Tx_statement_566 := dk_go 3 a_Tx_statement_563 rfl
theorem a_Tx_statement_569 : dk_at b_Tx_statement 569 t_Tx_statement_569 := dk_go 3 a_Tx_statement_566 rfl
theorem a_Tx_statement_570 : dk_at b_Tx_statement 570 t_Tx_statement_570 := dk_go 1 a_Tx_statement_569 rfl
theorem a_Tx_statement_573 : dk_at b_Tx_statement 573 t_Tx_statement_573 := dk_go 3 a_Tx_statement_570 rfl
theorem a_Tx_statement_574 : dk_at b_Tx_statement 574 t_Tx_statement_574 := dk_go 1 a_Tx_statement_573 rfl
theorem a_Tx_statement_576 : dk_at b_Tx_statement 576 t_Tx_statement_576 := dk_go 2 a_Tx_statement_574 rfl
theorem a_Tx_statement_579 : dk_at b_Tx_statement 579 t_Tx_statement_579 := dk_go 3 a_Tx_statement_576 rfl
theorem a_Tx_statement_580 : dk_at b_Tx_statement 580 t_Tx_statement_580 := dk_go 1 a_Tx_statement_579 rfl
theorem a_Tx_statement_582 : dk_at b_Tx_statement 582 t_Tx_statement_582 := dk_go 2 a_Tx_statement_580 rfl
theorem a_Tx_statement_585 : dk_at b_Tx_statement 585 t_Tx_statement_585 := dk_go 3 a_Tx_statement_582 rfl
theorem a_Tx_statement_587 : dk_at b_Tx_statement 587 t_Tx_statement_587 := dk_go 2 a_Tx_statement_585 rfl
theorem a_Tx_statement_589 : dk_at b_Tx_statement 589 t_Tx_statement_589 := dk_go 2 a_Tx_statement_587 rfl
theorem a_Tx_statement_592 : dk_at b_Tx_statement 592 t_Tx_statement_592 := dk_go 3 a_Tx_statement_589 rfl
theorem a_Tx_statement_593 : dk_at b_Tx_statement 593 t_Tx_statement_593 := dk_go 1 a_Tx_statement_592 rfl
theorem a_Tx_statement_594 : dk_at b_Tx_statement 594 t_Tx_statement_594 := dk_go 1 a_Tx_statement_593 rfl
theorem a_Tx_statement_595 : dk_at b_Tx_statement 595 t_Tx_statement_595 := dk_go 1 a_Tx_statement_594 rfl
theorem a_Tx_statement_596 : dk_at b_Tx_statement 596 t_Tx_statement_596 := dk_go 1 a_Tx_statement_595 rfl
theorem a_Tx_statement_599 : dk_at b_Tx_statement 599 t_Tx_statement_599 := dk_go 3 a_Tx_statement_596 rfl
theorem a_Tx_statement_600 : dk_at b_Tx_statement 600 t_Tx_statement_600 := dk_go 1 a_Tx_statement_599 rfl
theorem a_Tx_statement_601 : dk_at b_Tx_statement 601 t_Tx_statement_601 := dk_go 1 a_Tx_statement_600 rfl
theorem a_Tx_statement_604 : dk_at b_Tx_statement 604 t_Tx_statement_604 := dk_go 3 a_Tx_statement_601 rfl
theorem a_Tx_statement_605 : dk_at b_Tx_statement 605 t_Tx_statement_605 := dk_go 1 a_Tx_statement_604 rfl
theorem a_Tx_statement_606 : dk_at b_Tx_statement 606 t_Tx_statement_606 := dk_go 1 a_Tx_statement_605 rfl
theorem a_Tx_statement_608 : dk_at b_Tx_statement 608 t_Tx_statement_608 := dk_go 2 a_Tx_statement_606 rfl
theorem a_Tx_statement_609 : dk_at b_Tx_statement 609 t_Tx_statement_609 := dk_go 1 a_Tx_statement_608 rfl
theorem a_Tx_statement_610 : dk_at b_Tx_statement 610 t_Tx_statement_610 := dk_go 1 a_Tx_statement_609 rfl
theorem a_Tx_statement_611 : dk_at b_Tx_statement 611 t_Tx_statement_611 := dk_go 1 a_Tx_statement_610 rfl
theorem a_Tx_statement_612 : dk_at b_Tx_statement 612 t_Tx_statement_612 := dk_go 1 a_Tx_statement_611 rfl
theorem a_Tx_statement_615 : dk_at b_Tx_statement 615 t_Tx_statement_615 := dk_go 3 a_Tx_statement_612 rfl
theorem d_Tx_statement_0 : decode b_Tx_statement 0 = .ok (.aload_n 0, 1) := dk_0 a_Tx_statement_0 (dko_42 _)
theorem d_Tx_statement_1 : decode b_Tx_statement 1 = .ok (.getfield 146, 3) := dk_U2 a_Tx_statement_1 (dko_180 _) rfl
theorem d_Tx_statement_4 : decode b_Tx_statement 4 = .ok (.sipush 1000, 3) := dk_S2 a_Tx_statement_4 (dko_17 _) (by decide +kernel)
theorem d_Tx_statement_7 : decode b_Tx_statement 7 = .ok (.isub, 1) := dk_0 a_Tx_statement_7 (dko_100 _)
theorem d_Tx_statement_8 : decode b_Tx_statement 8 = .ok (.istore_n 1, 1) := dk_0 a_Tx_statement_8 (dko_60 _)
theorem d_Tx_statement_9 : decode b_Tx_statement 9 = .ok (.aload_n 0, 1) := dk_0 a_Tx_statement_9 (dko_42 _)
theorem d_Tx_statement_10 : decode b_Tx_statement 10 = .ok (.getfield 143, 3) := dk_U2 a_Tx_statement_10 (dko_180 _) rfl
theorem d_Tx_statement_13 : decode b_Tx_statement 13 = .ok (.istore_n 2, 1) := dk_0 a_Tx_statement_13 (dko_61 _)
theorem d_Tx_statement_14 : decode b_Tx_statement 14 = .ok (.iload_n 1, 1) := dk_0 a_Tx_statement_14 (dko_27 _)
theorem d_Tx_statement_15 : decode b_Tx_statement 15 = .ok (.bipush 10, 2) := dk_S1 a_Tx_statement_15 (dko_16 _) (by decide +kernel)
theorem d_Tx_statement_17 : decode b_Tx_statement 17 = .ok (.if_icmp .lt 9, 3) := dk_S2 a_Tx_statement_17 (dko_161 _) (by decide +kernel)
theorem d_Tx_statement_20 : decode b_Tx_statement 20 = .ok (.iload_n 1, 1) := dk_0 a_Tx_statement_20 (dko_27 _)
theorem d_Tx_statement_21 : decode b_Tx_statement 21 = .ok (.bipush 22, 2) := dk_S1 a_Tx_statement_21 (dko_16 _) (by decide +kernel)
theorem d_Tx_statement_23 : decode b_Tx_statement 23 = .ok (.if_icmp .le 8, 3) := dk_S2 a_Tx_statement_23 (dko_164 _) (by decide +kernel)
theorem d_Tx_statement_26 : decode b_Tx_statement 26 = .ok (.aload_n 0, 1) := dk_0 a_Tx_statement_26 (dko_42 _)
theorem d_Tx_statement_27 : decode b_Tx_statement 27 = .ok (.invokevirtual 192, 3) := dk_U2 a_Tx_statement_27 (dko_182 _) rfl
theorem d_Tx_statement_30 : decode b_Tx_statement 30 = .ok (.ireturn, 1) := dk_0 a_Tx_statement_30 (dko_172 _)
theorem d_Tx_statement_31 : decode b_Tx_statement 31 = .ok (.aload_n 0, 1) := dk_0 a_Tx_statement_31 (dko_42 _)
theorem d_Tx_statement_32 : decode b_Tx_statement 32 = .ok (.invokevirtual 182, 3) := dk_U2 a_Tx_statement_32 (dko_182 _) rfl
theorem d_Tx_statement_35 : decode b_Tx_statement 35 = .ok (.ifCond .ne 5, 3) := dk_S2 a_Tx_statement_35 (dko_154 _) (by decide +kernel)
theorem d_Tx_statement_38 : decode b_Tx_statement 38 = .ok (.iconst (-1), 1) := dk_0 a_Tx_statement_38 (dko_2 _)
theorem d_Tx_statement_39 : decode b_Tx_statement 39 = .ok (.ireturn, 1) := dk_0 a_Tx_statement_39 (dko_172 _)
theorem d_Tx_statement_40 : decode b_Tx_statement 40 = .ok (.aload_n 0, 1) := dk_0 a_Tx_statement_40 (dko_42 _)
theorem d_Tx_statement_41 : decode b_Tx_statement 41 = .ok (.getfield 201, 3) := dk_U2 a_Tx_statement_41 (dko_180 _) rfl
theorem d_Tx_statement_44 : decode b_Tx_statement 44 = .ok (.istore_n 3, 1) := dk_0 a_Tx_statement_44 (dko_62 _)
theorem d_Tx_statement_45 : decode b_Tx_statement 45 = .ok (.iconst 0, 1) := dk_0 a_Tx_statement_45 (dko_3 _)
theorem d_Tx_statement_46 : decode b_Tx_statement 46 = .ok (.istore 4, 2) := dk_U1 a_Tx_statement_46 (dko_54 _) rfl
theorem d_Tx_statement_48 : decode b_Tx_statement 48 = .ok (.iconst 1, 1) := dk_0 a_Tx_statement_48 (dko_4 _)
theorem d_Tx_statement_49 : decode b_Tx_statement 49 = .ok (.istore 5, 2) := dk_U1 a_Tx_statement_49 (dko_54 _) rfl
theorem d_Tx_statement_51 : decode b_Tx_statement 51 = .ok (.iload_n 1, 1) := dk_0 a_Tx_statement_51 (dko_27 _)
theorem d_Tx_statement_52 : decode b_Tx_statement 52 = .ok (.tableswitch 527 10 22 #[68, 148, 175, 68, 205, 261, 332, 361, 414, 414, 527, 527, 457], 68) := by decide +kernel
theorem d_Tx_statement_120 : decode b_Tx_statement 120 = .ok (.aload_n 0, 1) := dk_0 a_Tx_statement_120 (dko_42 _)
theorem d_Tx_statement_121 : decode b_Tx_statement 121 = .ok (.bipush 31, 2) := dk_S1 a_Tx_statement_121 (dko_16 _) (by decide +kernel)
theorem d_Tx_statement_123 : decode b_Tx_statement 123 = .ok (.invokevirtual 258, 3) := dk_U2 a_Tx_statement_123 (dko_182 _) rfl
theorem d_Tx_statement_126 : decode b_Tx_statement 126 = .ok (.istore 4, 2) := dk_U1 a_Tx_statement_126 (dko_54 _) rfl
theorem d_Tx_statement_128 : decode b_Tx_statement 128 = .ok (.iload 4, 2) := dk_U1 a_Tx_statement_128 (dko_21 _) rfl
theorem d_Tx_statement_130 : decode b_Tx_statement 130 = .ok (.ifCond .lt 64, 3) := dk_S2 a_Tx_statement_130 (dko_155 _) (by decide +kernel)
theorem d_Tx_statement_133 : decode b_Tx_statement 133 = .ok (.aload_n 0, 1) := dk_0 a_Tx_statement_133 (dko_42 _)
theorem d_Tx_statement_134 : decode b_Tx_statement 134 = .ok (.aload_n 0, 1) := dk_0 a_Tx_statement_134 (dko_42 _)
theorem d_Tx_statement_135 : decode b_Tx_statement 135 = .ok (.getfield 50, 3) := dk_U2 a_Tx_statement_135 (dko_180 _) rfl
theorem d_Tx_statement_138 : decode b_Tx_statement 138 = .ok (.bipush 40, 2) := dk_S1 a_Tx_statement_138 (dko_16 _) (by decide +kernel)
theorem d_Tx_statement_140 : decode b_Tx_statement 140 = .ok (.iconst 1, 1) := dk_0 a_Tx_statement_140 (dko_4 _)
theorem d_Tx_statement_141 : decode b_Tx_statement 141 = .ok (.aload_n 0, 1) := dk_0 a_Tx_statement_141 (dko_42 _)
theorem d_Tx_statement_142 : decode b_Tx_statement 142 = .ok (.getfield 186, 3) := dk_U2 a_Tx_statement_142 (dko_180 _) rfl
theorem d_Tx_statement_145 : decode b_Tx_statement 145 = .ok (.isub, 1) := dk_0 a_Tx_statement_145 (dko_100 _)
theorem d_Tx_statement_146 : decode b_Tx_statement 146 = .ok (.imul, 1) := dk_0 a_Tx_statement_146 (dko_104 _)
theorem d_Tx_statement_147 : decode b_Tx_statement 147 = .ok (.iload 4, 2) := dk_U1 a_Tx_statement_147 (dko_21 _) rfl
theorem d_Tx_statement_149 : decode b_Tx_statement 149 = .ok (.iadd, 1) := dk_0 a_Tx_statement_149 (dko_96 _)
theorem d_Tx_statement_150 : decode b_Tx_statement 150 = .ok (.iaload, 1) := dk_0 a_Tx_statement_150 (dko_46 _)
theorem d_Tx_statement_151 : decode b_Tx_statement 151 = .ok (.invokevirtual 261, 3) := dk_U2 a_Tx_statement_151 (dko_182 _) rfl
theorem d_Tx_statement_154 : decode b_Tx_statement 154 = .ok (.ifCond .eq 40, 3) := dk_S2 a_Tx_statement_154 (dko_153 _) (by decide +kernel)
theorem d_Tx_statement_157 : decode b_Tx_statement 157 = .ok (.iload_n 1, 1) := dk_0 a_Tx_statement_157 (dko_27 _)
theorem d_Tx_statement_158 : decode b_Tx_statement 158 = .ok (.bipush 10, 2) := dk_S1 a_Tx_statement_158 (dko_16 _) (by decide +kernel)
theorem d_Tx_statement_160 : decode b_Tx_statement 160 = .ok (.if_icmp .eq 21, 3) := dk_S2 a_Tx_statement_160 (dko_159 _) (by decide +kernel)
theorem d_Tx_statement_163 : decode b_Tx_statement 163 = .ok (.aload_n 0, 1) := dk_0 a_Tx_statement_163 (dko_42 _)
theorem d_Tx_statement_164 : decode b_Tx_statement 164 = .ok (.sipush 1032, 3) := dk_S2 a_Tx_statement_164 (dko_17 _) (by decide +kernel)
theorem d_Tx_statement_167 : decode b_Tx_statement 167 = .ok (.invokevirtual 234, 3) := dk_U2 a_Tx_statement_167 (dko_182 _) rfl
theorem d_Tx_statement_170 : decode b_Tx_statement 170 = .ok (.ifCond .eq 24, 3) := dk_S2 a_Tx_statement_170 (dko_153 _) (by decide +kernel)
theorem d_Tx_statement_173 : decode b_Tx_statement 173 = .ok (.aload_n 0, 1) := dk_0 a_Tx_statement_173 (dko_42 _)
theorem d_Tx_statement_174 : decode b_Tx_statement 174 = .ok (.iconst 3, 1) := dk_0 a_Tx_statement_174 (dko_6 _)
theorem d_Tx_statement_175 : decode b_Tx_statement 175 = .ok (.invokevirtual 261, 3) := dk_U2 a_Tx_statement_175 (dko_182 _) rfl
theorem d_Tx_statement_178 : decode b_Tx_statement 178 = .ok (.ifCond .eq 16, 3) := dk_S2 a_Tx_statement_178 (dko_153 _) (by decide +kernel)
theorem d_Tx_statement_181 : decode b_Tx_statement 181 = .ok (.aload_n 0, 1) := dk_0 a_Tx_statement_181 (dko_42 _)
theorem d_Tx_statement_182 : decode b_Tx_statement 182 = .ok (.bipush 59, 2) := dk_S1 a_Tx_statement_182 (dko_16 _) (by decide +kernel)
theorem d_Tx_statement_184 : decode b_Tx_statement 184 = .ok (.invokevirtual 234, 3) := dk_U2 a_Tx_statement_184 (dko_182 _) rfl
theorem d_Tx_statement_187 : decode b_Tx_statement 187 = .ok (.ifCond .eq 7, 3) := dk_S2 a_Tx_statement_187 (dko_153 _) (by decide +kernel)
theorem d_Tx_statement_190 : decode b_Tx_statement 190 = .ok (.iconst 1, 1) := dk_0 a_Tx_statement_190 (dko_4 _)
theorem d_Tx_statement_191 : decode b_Tx_statement 191 = .ok (.goto 4, 3) := dk_S2 a_Tx_statement_191 (dko_167 _) (by decide +kernel)
theorem d_Tx_statement_194 : decode b_Tx_statement 194 = .ok (.iconst 0, 1) := dk_0 a_Tx_statement_194 (dko_3 _)
theorem d_Tx_statement_195 : decode b_Tx_statement 195 = .ok (.istore 5, 2) := dk_U1 a_Tx_statement_195 (dko_54 _) rfl
theorem d_Tx_statement_197 : decode b_Tx_statement 197 = .ok (.goto 390, 3) := dk_S2 a_Tx_statement_197 (dko_167 _) (by decide +kernel)
theorem d_Tx_statement_200 : decode b_Tx_statement 200 = .ok (.aload_n 0, 1) := dk_0 a_Tx_statement_200 (dko_42 _)
theorem d_Tx_statement_201 : decode b_Tx_statement 201 = .ok (.iconst 3, 1) := dk_0 a_Tx_statement_201 (dko_6 _)
theorem d_Tx_statement_202 : decode b_Tx_statement 202 = .ok (.invokevirtual 261, 3) := dk_U2 a_Tx_statement_202 (dko_182 _) rfl
theorem d_Tx_statement_205 : decode b_Tx_statement 205 = .ok (.ifCond .eq 16, 3) := dk_S2 a_Tx_statement_205 (dko_153 _) (by decide +kernel)
theorem d_Tx_statement_208 : decode b_Tx_statement 208 = .ok (.aload_n 0, 1) := dk_0 a_Tx_statement_208 (dko_42 _)
theorem d_Tx_statement_209 : decode b_Tx_statement 209 = .ok (.bipush 59, 2) := dk_S1 a_Tx_statement_209 (dko_16 _) (by decide +kernel)
theorem d_Tx_statement_211 : decode b_Tx_statement 211 = .ok (.invokevirtual 234, 3) := dk_U2 a_Tx_statement_211 (dko_182 _) rfl
theorem d_Tx_statement_214 : decode b_Tx_statement 214 = .ok (.ifCond .eq 7, 3) := dk_S2 a_Tx_statement_214 (dko_153 _) (by decide +kernel)
theorem d_Tx_statement_217 : decode b_Tx_statement 217 = .ok (.iconst 1, 1) := dk_0 a_Tx_statement_217 (dko_4 _)
theorem d_Tx_statement_218 : decode b_Tx_statement 218 = .ok (.goto 4, 3) := dk_S2 a_Tx_statement_218 (dko_167 _) (by decide +kernel)
theorem d_Tx_statement_221 : decode b_Tx_statement 221 = .ok (.iconst 0, 1) := dk_0 a_Tx_statement_221 (dko_3 _)
theorem d_Tx_statement_222 : decode b_Tx_statement 222 = .ok (.istore 5, 2) := dk_U1 a_Tx_statement_222 (dko_54 _) rfl
theorem d_Tx_statement_224 : decode b_Tx_statement 224 = .ok (.goto 363, 3) := dk_S2 a_Tx_statement_224 (dko_167 _) (by decide +kernel)
theorem d_Tx_statement_227 : decode b_Tx_statement 227 = .ok (.aload_n 0, 1) := dk_0 a_Tx_statement_227 (dko_42 _)
theorem d_Tx_statement_228 : decode b_Tx_statement 228 = .ok (.aload_n 0, 1) := dk_0 a_Tx_statement_228 (dko_42 _)
theorem d_Tx_statement_229 : decode b_Tx_statement 229 = .ok (.invokevirtual 264, 3) := dk_U2 a_Tx_statement_229 (dko_182 _) rfl
theorem d_Tx_statement_232 : decode b_Tx_statement 232 = .ok (.invokevirtual 267, 3) := dk_U2 a_Tx_statement_232 (dko_182 _) rfl
theorem d_Tx_statement_235 : decode b_Tx_statement 235 = .ok (.ifCond .eq 16, 3) := dk_S2 a_Tx_statement_235 (dko_153 _) (by decide +kernel)
theorem d_Tx_statement_238 : decode b_Tx_statement 238 = .ok (.aload_n 0, 1) := dk_0 a_Tx_statement_238 (dko_42 _)
theorem d_Tx_statement_239 : decode b_Tx_statement 239 = .ok (.bipush 59, 2) := dk_S1 a_Tx_statement_239 (dko_16 _) (by decide +kernel)
theorem d_Tx_statement_241 : decode b_Tx_statement 241 = .ok (.invokevirtual 234, 3) := dk_U2 a_Tx_statement_241 (dko_182 _) rfl
theorem d_Tx_statement_244 : decode b_Tx_statement 244 = .ok (.ifCond .eq 7, 3) := dk_S2 a_Tx_statement_244 (dko_153 _) (by decide +kernel)
theorem d_Tx_statement_247 : decode b_Tx_statement 247 = .ok (.iconst 1, 1) := dk_0 a_Tx_statement_247 (dko_4 _)
theorem d_Tx_statement_248 : decode b_Tx_statement 248 = .ok (.goto 4, 3) := dk_S2 a_Tx_statement_248 (dko_167 _) (by decide +kernel)
theorem d_Tx_statement_251 : decode b_Tx_statement 251 = .ok (.iconst 0, 1) := dk_0 a_Tx_statement_251 (dko_3 _)
theorem d_Tx_statement_252 : decode b_Tx_statement 252 = .ok (.istore 5, 2) := dk_U1 a_Tx_statement_252 (dko_54 _) rfl
theorem d_Tx_statement_254 : decode b_Tx_statement 254 = .ok (.goto 333, 3) := dk_S2 a_Tx_statement_254 (dko_167 _) (by decide +kernel)
theorem d_Tx_statement_257 : decode b_Tx_statement 257 = .ok (.aload_n 0, 1) := dk_0 a_Tx_statement_257 (dko_42 _)
theorem d_Tx_statement_258 : decode b_Tx_statement 258 = .ok (.aload_n 0, 1) := dk_0 a_Tx_statement_258 (dko_42 _)
theorem d_Tx_statement_259 : decode b_Tx_statement 259 = .ok (.invokevirtual 270, 3) := dk_U2 a_Tx_statement_259 (dko_182 _) rfl
theorem d_Tx_statement_262 : decode b_Tx_statement 262 = .ok (.invokevirtual 267, 3) := dk_U2 a_Tx_statement_262 (dko_182 _) rfl
theorem d_Tx_statement_265 : decode b_Tx_statement 265 = .ok (.ifCond .eq 18, 3) := dk_S2 a_Tx_statement_265 (dko_153 _) (by decide +kernel)
theorem d_Tx_statement_268 : decode b_Tx_statement 268 = .ok (.aload_n 0, 1) := dk_0 a_Tx_statement_268 (dko_42 _)
theorem d_Tx_statement_269 : decode b_Tx_statement 269 = .ok (.aload_n 0, 1) := dk_0 a_Tx_statement_269 (dko_42 _)
theorem d_Tx_statement_270 : decode b_Tx_statement 270 = .ok (.invokevirtual 270, 3) := dk_U2 a_Tx_statement_270 (dko_182 _) rfl
theorem d_Tx_statement_273 : decode b_Tx_statement 273 = .ok (.invokevirtual 267, 3) := dk_U2 a_Tx_statement_273 (dko_182 _) rfl
theorem d_Tx_statement_276 : decode b_Tx_statement 276 = .ok (.ifCond .eq 7, 3) := dk_S2 a_Tx_statement_276 (dko_153 _) (by decide +kernel)
theorem d_Tx_statement_279 : decode b_Tx_statement 279 = .ok (.iconst 1, 1) := dk_0 a_Tx_statement_279 (dko_4 _)
theorem d_Tx_statement_280 : decode b_Tx_statement 280 = .ok (.goto 4, 3) := dk_S2 a_Tx_statement_280 (dko_167 _) (by decide +kernel)
theorem d_Tx_statement_283 : decode b_Tx_statement 283 = .ok (.iconst 0, 1) := dk_0 a_Tx_statement_283 (dko_3 _)
theorem d_Tx_statement_284 : decode b_Tx_statement 284 = .ok (.istore 5, 2) := dk_U1 a_Tx_statement_284 (dko_54 _) rfl
theorem d_Tx_statement_286 : decode b_Tx_statement 286 = .ok (.iload 5, 2) := dk_U1 a_Tx_statement_286 (dko_21 _) rfl
theorem d_Tx_statement_288 : decode b_Tx_statement 288 = .ok (.ifCond .eq 299, 3) := dk_S2 a_Tx_statement_288 (dko_153 _) (by decide +kernel)
theorem d_Tx_statement_291 : decode b_Tx_statement 291 = .ok (.aload_n 0, 1) := dk_0 a_Tx_statement_291 (dko_42 _)
theorem d_Tx_statement_292 : decode b_Tx_statement 292 = .ok (.getfield 146, 3) := dk_U2 a_Tx_statement_292 (dko_180 _) rfl
theorem d_Tx_statement_295 : decode b_Tx_statement 295 = .ok (.bipush 123, 2) := dk_S1 a_Tx_statement_295 (dko_16 _) (by decide +kernel)
theorem d_Tx_statement_297 : decode b_Tx_statement 297 = .ok (.if_icmp .ne 290, 3) := dk_S2 a_Tx_statement_297 (dko_160 _) (by decide +kernel)
theorem d_Tx_statement_300 : decode b_Tx_statement 300 = .ok (.aload_n 0, 1) := dk_0 a_Tx_statement_300 (dko_42 _)
theorem d_Tx_statement_301 : decode b_Tx_statement 301 = .ok (.aload_n 0, 1) := dk_0 a_Tx_statement_301 (dko_42 _)
theorem d_Tx_statement_302 : decode b_Tx_statement 302 = .ok (.invokevirtual 270, 3) := dk_U2 a_Tx_statement_302 (dko_182 _) rfl
theorem d_Tx_statement_305 : decode b_Tx_statement 305 = .ok (.invokevirtual 267, 3) := dk_U2 a_Tx_statement_305 (dko_182 _) rfl
theorem d_Tx_statement_308 : decode b_Tx_statement 308 = .ok (.istore 5, 2) := dk_U1 a_Tx_statement_308 (dko_54 _) rfl
theorem d_Tx_statement_310 : decode b_Tx_statement 310 = .ok (.goto (-24), 3) := dk_S2 a_Tx_statement_310 (dko_167 _) (by decide +kernel)
theorem d_Tx_statement_313 : decode b_Tx_statement 313 = .ok (.aload_n 0, 1) := dk_0 a_Tx_statement_313 (dko_42 _)
theorem d_Tx_statement_314 : decode b_Tx_statement 314 = .ok (.aload_n 0, 1) := dk_0 a_Tx_statement_314 (dko_42 _)
theorem d_Tx_statement_315 : decode b_Tx_statement 315 = .ok (.invokevirtual 264, 3) := dk_U2 a_Tx_statement_315 (dko_182 _) rfl
theorem d_Tx_statement_318 : decode b_Tx_statement 318 = .ok (.invokevirtual 267, 3) := dk_U2 a_Tx_statement_318 (dko_182 _) rfl
theorem d_Tx_statement_321 : decode b_Tx_statement 321 = .ok (.ifCond .eq 18, 3) := dk_S2 a_Tx_statement_321 (dko_153 _) (by decide +kernel)
theorem d_Tx_statement_324 : decode b_Tx_statement 324 = .ok (.aload_n 0, 1) := dk_0 a_Tx_statement_324 (dko_42 _)
theorem d_Tx_statement_325 : decode b_Tx_statement 325 = .ok (.aload_n 0, 1) := dk_0 a_Tx_statement_325 (dko_42 _)
theorem d_Tx_statement_326 : decode b_Tx_statement 326 = .ok (.invokevirtual 270, 3) := dk_U2 a_Tx_statement_326 (dko_182 _) rfl
theorem d_Tx_statement_329 : decode b_Tx_statement 329 = .ok (.invokevirtual 267, 3) := dk_U2 a_Tx_statement_329 (dko_182 _) rfl
theorem d_Tx_statement_332 : decode b_Tx_statement 332 = .ok (.ifCond .eq 7, 3) := dk_S2 a_Tx_statement_332 (dko_153 _) (by decide +kernel)
theorem d_Tx_statement_335 : decode b_Tx_statement 335 = .ok (.iconst 1, 1) := dk_0 a_Tx_statement_335 (dko_4 _)
theorem d_Tx_statement_336 : decode b_Tx_statement 336 = .ok (.goto 4, 3) := dk_S2 a_Tx_statement_336 (dko_167 _) (by decide +kernel)
theorem d_Tx_statement_339 : decode b_Tx_statement 339 = .ok (.iconst 0, 1) := dk_0 a_Tx_statement_339 (dko_3 _)
theorem d_Tx_statement_340 : decode b_Tx_statement 340 = .ok (.istore 5, 2) := dk_U1 a_Tx_statement_340 (dko_54 _) rfl
theorem d_Tx_statement_342 : decode b_Tx_statement 342 = .ok (.iload 5, 2) := dk_U1 a_Tx_statement_342 (dko_21 _) rfl
theorem d_Tx_statement_344 : decode b_Tx_statement 344 = .ok (.ifCond .eq 243, 3) := dk_S2 a_Tx_statement_344 (dko_153 _) (by decide +kernel)
theorem d_Tx_statement_347 : decode b_Tx_statement 347 = .ok (.aload_n 0, 1) := dk_0 a_Tx_statement_347 (dko_42 _)
theorem d_Tx_statement_348 : decode b_Tx_statement 348 = .ok (.bipush 33, 2) := dk_S1 a_Tx_statement_348 (dko_16 _) (by decide +kernel)
theorem d_Tx_statement_350 : decode b_Tx_statement 350 = .ok (.invokevirtual 237, 3) := dk_U2 a_Tx_statement_350 (dko_182 _) rfl
theorem d_Tx_statement_353 : decode b_Tx_statement 353 = .ok (.ifCond .eq 234, 3) := dk_S2 a_Tx_statement_353 (dko_153 _) (by decide +kernel)
theorem d_Tx_statement_356 : decode b_Tx_statement 356 = .ok (.aload_n 0, 1) := dk_0 a_Tx_statement_356 (dko_42 _)
theorem d_Tx_statement_357 : decode b_Tx_statement 357 = .ok (.invokevirtual 182, 3) := dk_U2 a_Tx_statement_357 (dko_182 _) rfl
theorem d_Tx_statement_360 : decode b_Tx_statement 360 = .ok (.ifCond .eq 18, 3) := dk_S2 a_Tx_statement_360 (dko_153 _) (by decide +kernel)
theorem d_Tx_statement_363 : decode b_Tx_statement 363 = .ok (.aload_n 0, 1) := dk_0 a_Tx_statement_363 (dko_42 _)
theorem d_Tx_statement_364 : decode b_Tx_statement 364 = .ok (.aload_n 0, 1) := dk_0 a_Tx_statement_364 (dko_42 _)
theorem d_Tx_statement_365 : decode b_Tx_statement 365 = .ok (.invokevirtual 270, 3) := dk_U2 a_Tx_statement_365 (dko_182 _) rfl
theorem d_Tx_statement_368 : decode b_Tx_statement 368 = .ok (.invokevirtual 267, 3) := dk_U2 a_Tx_statement_368 (dko_182 _) rfl
theorem d_Tx_statement_371 : decode b_Tx_statement 371 = .ok (.ifCond .eq 7, 3) := dk_S2 a_Tx_statement_371 (dko_153 _) (by decide +kernel)
theorem d_Tx_statement_374 : decode b_Tx_statement 374 = .ok (.iconst 1, 1) := dk_0 a_Tx_statement_374 (dko_4 _)
theorem d_Tx_statement_375 : decode b_Tx_statement 375 = .ok (.goto 4, 3) := dk_S2 a_Tx_statement_375 (dko_167 _) (by decide +kernel)
theorem d_Tx_statement_378 : decode b_Tx_statement 378 = .ok (.iconst 0, 1) := dk_0 a_Tx_statement_378 (dko_3 _)
theorem d_Tx_statement_379 : decode b_Tx_statement 379 = .ok (.istore 5, 2) := dk_U1 a_Tx_statement_379 (dko_54 _) rfl
theorem d_Tx_statement_381 : decode b_Tx_statement 381 = .ok (.goto 206, 3) := dk_S2 a_Tx_statement_381 (dko_167 _) (by decide +kernel)
theorem d_Tx_statement_384 : decode b_Tx_statement 384 = .ok (.aload_n 0, 1) := dk_0 a_Tx_statement_384 (dko_42 _)
theorem d_Tx_statement_385 : decode b_Tx_statement 385 = .ok (.iconst 0, 1) := dk_0 a_Tx_statement_385 (dko_3 _)
theorem d_Tx_statement_386 : decode b_Tx_statement 386 = .ok (.invokevirtual 261, 3) := dk_U2 a_Tx_statement_386 (dko_182 _) rfl
theorem d_Tx_statement_389 : decode b_Tx_statement 389 = .ok (.ifCond .eq 18, 3) := dk_S2 a_Tx_statement_389 (dko_153 _) (by decide +kernel)
theorem d_Tx_statement_392 : decode b_Tx_statement 392 = .ok (.aload_n 0, 1) := dk_0 a_Tx_statement_392 (dko_42 _)
theorem d_Tx_statement_393 : decode b_Tx_statement 393 = .ok (.aload_n 0, 1) := dk_0 a_Tx_statement_393 (dko_42 _)
theorem d_Tx_statement_394 : decode b_Tx_statement 394 = .ok (.invokevirtual 270, 3) := dk_U2 a_Tx_statement_394 (dko_182 _) rfl
theorem d_Tx_statement_397 : decode b_Tx_statement 397 = .ok (.invokevirtual 267, 3) := dk_U2 a_Tx_statement_397 (dko_182 _) rfl
theorem d_Tx_statement_400 : decode b_Tx_statement 400 = .ok (.ifCond .eq 7, 3) := dk_S2 a_Tx_statement_400 (dko_153 _) (by decide +kernel)
theorem d_Tx_statement_403 : decode b_Tx_statement 403 = .ok (.iconst 1, 1) := dk_0 a_Tx_statement_403 (dko_4 _)
theorem d_Tx_statement_404 : decode b_Tx_statement 404 = .ok (.goto 4, 3) := dk_S2 a_Tx_statement_404 (dko_167 _) (by decide +kernel)
theorem d_Tx_statement_407 : decode b_Tx_statement 407 = .ok (.iconst 0, 1) := dk_0 a_Tx_statement_407 (dko_3 _)
theorem d_Tx_statement_408 : decode b_Tx_statement 408 = .ok (.istore 5, 2) := dk_U1 a_Tx_statement_408 (dko_54 _) rfl
theorem d_Tx_statement_410 : decode b_Tx_statement 410 = .ok (.goto 177, 3) := dk_S2 a_Tx_statement_410 (dko_167 _) (by decide +kernel)
theorem d_Tx_statement_413 : decode b_Tx_statement 413 = .ok (.aload_n 0, 1) := dk_0 a_Tx_statement_413 (dko_42 _)
theorem d_Tx_statement_414 : decode b_Tx_statement 414 = .ok (.aload_n 0, 1) := dk_0 a_Tx_statement_414 (dko_42 _)
theorem d_Tx_statement_415 : decode b_Tx_statement 415 = .ok (.invokevirtual 264, 3) := dk_U2 a_Tx_statement_415 (dko_182 _) rfl
theorem d_Tx_statement_418 : decode b_Tx_statement 418 = .ok (.invokevirtual 267, 3) := dk_U2 a_Tx_statement_418 (dko_182 _) rfl
theorem d_Tx_statement_421 : decode b_Tx_statement 421 = .ok (.ifCond .eq 39, 3) := dk_S2 a_Tx_statement_421 (dko_153 _) (by decide +kernel)
theorem d_Tx_statement_424 : decode b_Tx_statement 424 = .ok (.aload_n 0, 1) := dk_0 a_Tx_statement_424 (dko_42 _)
theorem d_Tx_statement_425 : decode b_Tx_statement 425 = .ok (.aload_n 0, 1) := dk_0 a_Tx_statement_425 (dko_42 _)
theorem d_Tx_statement_426 : decode b_Tx_statement 426 = .ok (.invokevirtual 270, 3) := dk_U2 a_Tx_statement_426 (dko_182 _) rfl
theorem d_Tx_statement_429 : decode b_Tx_statement 429 = .ok (.invokevirtual 267, 3) := dk_U2 a_Tx_statement_429 (dko_182 _) rfl
theorem d_Tx_statement_432 : decode b_Tx_statement 432 = .ok (.ifCond .eq 28, 3) := dk_S2 a_Tx_statement_432 (dko_153 _) (by decide +kernel)
theorem d_Tx_statement_435 : decode b_Tx_statement 435 = .ok (.aload_n 0, 1) := dk_0 a_Tx_statement_435 (dko_42 _)
theorem d_Tx_statement_436 : decode b_Tx_statement 436 = .ok (.sipush 1034, 3) := dk_S2 a_Tx_statement_436 (dko_17 _) (by decide +kernel)
theorem d_Tx_statement_439 : decode b_Tx_statement 439 = .ok (.invokevirtual 234, 3) := dk_U2 a_Tx_statement_439 (dko_182 _) rfl
theorem d_Tx_statement_442 : decode b_Tx_statement 442 = .ok (.ifCond .eq 18, 3) := dk_S2 a_Tx_statement_442 (dko_153 _) (by decide +kernel)
theorem d_Tx_statement_445 : decode b_Tx_statement 445 = .ok (.aload_n 0, 1) := dk_0 a_Tx_statement_445 (dko_42 _)
theorem d_Tx_statement_446 : decode b_Tx_statement 446 = .ok (.aload_n 0, 1) := dk_0 a_Tx_statement_446 (dko_42 _)
theorem d_Tx_statement_447 : decode b_Tx_statement 447 = .ok (.invokevirtual 270, 3) := dk_U2 a_Tx_statement_447 (dko_182 _) rfl
theorem d_Tx_statement_450 : decode b_Tx_statement 450 = .ok (.invokevirtual 267, 3) := dk_U2 a_Tx_statement_450 (dko_182 _) rfl
theorem d_Tx_statement_453 : decode b_Tx_statement 453 = .ok (.ifCond .eq 7, 3) := dk_S2 a_Tx_statement_453 (dko_153 _) (by decide +kernel)
theorem d_Tx_statement_456 : decode b_Tx_statement 456 = .ok (.iconst 1, 1) := dk_0 a_Tx_statement_456 (dko_4 _)
theorem d_Tx_statement_457 : decode b_Tx_statement 457 = .ok (.goto 4, 3) := dk_S2 a_Tx_statement_457 (dko_167 _) (by decide +kernel)
theorem d_Tx_statement_460 : decode b_Tx_statement 460 = .ok (.iconst 0, 1) := dk_0 a_Tx_statement_460 (dko_3 _)
theorem d_Tx_statement_461 : decode b_Tx_statement 461 = .ok (.istore 5, 2) := dk_U1 a_Tx_statement_461 (dko_54 _) rfl
theorem d_Tx_statement_463 : decode b_Tx_statement 463 = .ok (.goto 124, 3) := dk_S2 a_Tx_statement_463 (dko_167 _) (by decide +kernel)
theorem d_Tx_statement_466 : decode b_Tx_statement 466 = .ok (.aload_n 0, 1) := dk_0 a_Tx_statement_466 (dko_42 _)
theorem d_Tx_statement_467 : decode b_Tx_statement 467 = .ok (.iload_n 1, 1) := dk_0 a_Tx_statement_467 (dko_27 _)
theorem d_Tx_statement_468 : decode b_Tx_statement 468 = .ok (.bipush 18, 2) := dk_S1 a_Tx_statement_468 (dko_16 _) (by decide +kernel)
theorem d_Tx_statement_470 : decode b_Tx_statement 470 = .ok (.if_icmp .ne 8, 3) := dk_S2 a_Tx_statement_470 (dko_160 _) (by decide +kernel)
theorem d_Tx_statement_473 : decode b_Tx_statement 473 = .ok (.bipush 30, 2) := dk_S1 a_Tx_statement_473 (dko_16 _) (by decide +kernel)
theorem d_Tx_statement_475 : decode b_Tx_statement 475 = .ok (.goto 5, 3) := dk_S2 a_Tx_statement_475 (dko_167 _) (by decide +kernel)
theorem d_Tx_statement_478 : decode b_Tx_statement 478 = .ok (.bipush 24, 2) := dk_S1 a_Tx_statement_478 (dko_16 _) (by decide +kernel)
theorem d_Tx_statement_480 : decode b_Tx_statement 480 = .ok (.invokevirtual 258, 3) := dk_U2 a_Tx_statement_480 (dko_182 _) rfl
theorem d_Tx_statement_483 : decode b_Tx_statement 483 = .ok (.istore 4, 2) := dk_U1 a_Tx_statement_483 (dko_54 _) rfl
theorem d_Tx_statement_485 : decode b_Tx_statement 485 = .ok (.iload 4, 2) := dk_U1 a_Tx_statement_485 (dko_21 _) rfl
theorem d_Tx_statement_487 : decode b_Tx_statement 487 = .ok (.ifCond .lt 16, 3) := dk_S2 a_Tx_statement_487 (dko_155 _) (by decide +kernel)
theorem d_Tx_statement_490 : decode b_Tx_statement 490 = .ok (.aload_n 0, 1) := dk_0 a_Tx_statement_490 (dko_42 _)
theorem d_Tx_statement_491 : decode b_Tx_statement 491 = .ok (.bipush 59, 2) := dk_S1 a_Tx_statement_491 (dko_16 _) (by decide +kernel)
theorem d_Tx_statement_493 : decode b_Tx_statement 493 = .ok (.invokevirtual 234, 3) := dk_U2 a_Tx_statement_493 (dko_182 _) rfl
theorem d_Tx_statement_496 : decode b_Tx_statement 496 = .ok (.ifCond .eq 7, 3) := dk_S2 a_Tx_statement_496 (dko_153 _) (by decide +kernel)
theorem d_Tx_statement_499 : decode b_Tx_statement 499 = .ok (.iconst 1, 1) := dk_0 a_Tx_statement_499 (dko_4 _)
theorem d_Tx_statement_500 : decode b_Tx_statement 500 = .ok (.goto 4, 3) := dk_S2 a_Tx_statement_500 (dko_167 _) (by decide +kernel)
theorem d_Tx_statement_503 : decode b_Tx_statement 503 = .ok (.iconst 0, 1) := dk_0 a_Tx_statement_503 (dko_3 _)
theorem d_Tx_statement_504 : decode b_Tx_statement 504 = .ok (.istore 5, 2) := dk_U1 a_Tx_statement_504 (dko_54 _) rfl
theorem d_Tx_statement_506 : decode b_Tx_statement 506 = .ok (.goto 81, 3) := dk_S2 a_Tx_statement_506 (dko_167 _) (by decide +kernel)
theorem d_Tx_statement_509 : decode b_Tx_statement 509 = .ok (.aload_n 0, 1) := dk_0 a_Tx_statement_509 (dko_42 _)
theorem d_Tx_statement_510 : decode b_Tx_statement 510 = .ok (.getfield 146, 3) := dk_U2 a_Tx_statement_510 (dko_180 _) rfl
theorem d_Tx_statement_513 : decode b_Tx_statement 513 = .ok (.sipush 2000, 3) := dk_S2 a_Tx_statement_513 (dko_17 _) (by decide +kernel)
theorem d_Tx_statement_516 : decode b_Tx_statement 516 = .ok (.if_icmp .ne 21, 3) := dk_S2 a_Tx_statement_516 (dko_160 _) (by decide +kernel)
theorem d_Tx_statement_519 : decode b_Tx_statement 519 = .ok (.aload_n 0, 1) := dk_0 a_Tx_statement_519 (dko_42 _)
theorem d_Tx_statement_520 : decode b_Tx_statement 520 = .ok (.getfield 176, 3) := dk_U2 a_Tx_statement_520 (dko_180 _) rfl
theorem d_Tx_statement_523 : decode b_Tx_statement 523 = .ok (.ifCond .ne 14, 3) := dk_S2 a_Tx_statement_523 (dko_154 _) (by decide +kernel)
theorem d_Tx_statement_526 : decode b_Tx_statement 526 = .ok (.aload_n 0, 1) := dk_0 a_Tx_statement_526 (dko_42 _)
theorem d_Tx_statement_527 : decode b_Tx_statement 527 = .ok (.getfield 166, 3) := dk_U2 a_Tx_statement_527 (dko_180 _) rfl
theorem d_Tx_statement_530 : decode b_Tx_statement 530 = .ok (.ldc2_w 273, 3) := dk_U2 a_Tx_statement_530 (dko_20 _) rfl
theorem d_Tx_statement_533 : decode b_Tx_statement 533 = .ok (.lcmp, 1) := dk_0 a_Tx_statement_533 (dko_148 _)
theorem d_Tx_statement_534 : decode b_Tx_statement 534 = .ok (.ifCond .lt 8, 3) := dk_S2 a_Tx_statement_534 (dko_155 _) (by decide +kernel)
theorem d_Tx_statement_537 : decode b_Tx_statement 537 = .ok (.aload_n 0, 1) := dk_0 a_Tx_statement_537 (dko_42 _)
theorem d_Tx_statement_538 : decode b_Tx_statement 538 = .ok (.invokevirtual 192, 3) := dk_U2 a_Tx_statement_538 (dko_182 _) rfl
theorem d_Tx_statement_541 : decode b_Tx_statement 541 = .ok (.ireturn, 1) := dk_0 a_Tx_statement_541 (dko_172 _)
theorem d_Tx_statement_542 : decode b_Tx_statement 542 = .ok (.aload_n 0, 1) := dk_0 a_Tx_statement_542 (dko_42 _)
theorem d_Tx_statement_543 : decode b_Tx_statement 543 = .ok (.getfield 166, 3) := dk_U2 a_Tx_statement_543 (dko_180 _) rfl
theorem d_Tx_statement_546 : decode b_Tx_statement 546 = .ok (.ldc2_w 174, 3) := dk_U2 a_Tx_statement_546 (dko_20 _) rfl
theorem d_Tx_statement_549 : decode b_Tx_statement 549 = .ok (.ldiv, 1) := dk_0 a_Tx_statement_549 (dko_109 _)
theorem d_Tx_statement_550 : decode b_Tx_statement 550 = .ok (.l2i, 1) := dk_0 a_Tx_statement_550 (dko_136 _)
theorem d_Tx_statement_551 : decode b_Tx_statement 551 = .ok (.istore 4, 2) := dk_U1 a_Tx_statement_551 (dko_54 _) rfl
theorem d_Tx_statement_553 : decode b_Tx_statement 553 = .ok (.aload_n 0, 1) := dk_0 a_Tx_statement_553 (dko_42 _)
theorem d_Tx_statement_554 : decode b_Tx_statement 554 = .ok (.invokevirtual 182, 3) := dk_U2 a_Tx_statement_554 (dko_182 _) rfl
theorem d_Tx_statement_557 : decode b_Tx_statement 557 = .ok (.ifCond .eq 16, 3) := dk_S2 a_Tx_statement_557 (dko_153 _) (by decide +kernel)
theorem d_Tx_statement_560 : decode b_Tx_statement 560 = .ok (.aload_n 0, 1) := dk_0 a_Tx_statement_560 (dko_42 _)
theorem d_Tx_statement_561 : decode b_Tx_statement 561 = .ok (.bipush 59, 2) := dk_S1 a_Tx_statement_561 (dko_16 _) (by decide +kernel)
theorem d_Tx_statement_563 : decode b_Tx_statement 563 = .ok (.invokevirtual 234, 3) := dk_U2 a_Tx_statement_563 (dko_182 _) rfl
theorem d_Tx_statement_566 : decode b_Tx_statement 566 = .ok (.ifCond .eq 7, 3) := dk_S2 a_Tx_statement_566 (dko_153 _) (by decide +kernel)
theorem d_Tx_statement_569 : decode b_Tx_statement 569 = .ok (.iconst 1, 1) := dk_0 a_Tx_statement_569 (dko_4 _)
theorem d_Tx_statement_570 : decode b_Tx_statement 570 = .ok (.goto 4, 3) := dk_S2 a_Tx_statement_570 (dko_167 _) (by decide +kernel)
theorem d_Tx_statement_573 : decode b_Tx_statement 573 = .ok (.iconst 0, 1) := dk_0 a_Tx_statement_573 (dko_3 _)
theorem d_Tx_statement_574 : decode b_Tx_statement 574 = .ok (.istore 5, 2) := dk_U1 a_Tx_statement_574 (dko_54 _) rfl
theorem d_Tx_statement_576 : decode b_Tx_statement 576 = .ok (.goto 11, 3) := dk_S2 a_Tx_statement_576 (dko_167 _) (by decide +kernel)
theorem d_Tx_statement_579 : decode b_Tx_statement 579 = .ok (.aload_n 0, 1) := dk_0 a_Tx_statement_579 (dko_42 _)
theorem d_Tx_statement_580 : decode b_Tx_statement 580 = .ok (.bipush 59, 2) := dk_S1 a_Tx_statement_580 (dko_16 _) (by decide +kernel)
theorem d_Tx_statement_582 : decode b_Tx_statement 582 = .ok (.invokevirtual 234, 3) := dk_U2 a_Tx_statement_582 (dko_182 _) rfl
theorem d_Tx_statement_585 : decode b_Tx_statement 585 = .ok (.istore 5, 2) := dk_U1 a_Tx_statement_585 (dko_54 _) rfl
theorem d_Tx_statement_587 : decode b_Tx_statement 587 = .ok (.iload 5, 2) := dk_U1 a_Tx_statement_587 (dko_21 _) rfl
theorem d_Tx_statement_589 : decode b_Tx_statement 589 = .ok (.ifCond .ne 5, 3) := dk_S2 a_Tx_statement_589 (dko_154 _) (by decide +kernel)
theorem d_Tx_statement_592 : decode b_Tx_statement 592 = .ok (.iconst (-1), 1) := dk_0 a_Tx_statement_592 (dko_2 _)
theorem d_Tx_statement_593 : decode b_Tx_statement 593 = .ok (.ireturn, 1) := dk_0 a_Tx_statement_593 (dko_172 _)
theorem d_Tx_statement_594 : decode b_Tx_statement 594 = .ok (.aload_n 0, 1) := dk_0 a_Tx_statement_594 (dko_42 _)
theorem d_Tx_statement_595 : decode b_Tx_statement 595 = .ok (.dup, 1) := dk_0 a_Tx_statement_595 (dko_89 _)
theorem d_Tx_statement_596 : decode b_Tx_statement 596 = .ok (.getfield 275, 3) := dk_U2 a_Tx_statement_596 (dko_180 _) rfl
theorem d_Tx_statement_599 : decode b_Tx_statement 599 = .ok (.iconst 1, 1) := dk_0 a_Tx_statement_599 (dko_4 _)
theorem d_Tx_statement_600 : decode b_Tx_statement 600 = .ok (.iadd, 1) := dk_0 a_Tx_statement_600 (dko_96 _)
theorem d_Tx_statement_601 : decode b_Tx_statement 601 = .ok (.putfield 275, 3) := dk_U2 a_Tx_statement_601 (dko_181 _) rfl
theorem d_Tx_statement_604 : decode b_Tx_statement 604 = .ok (.aload_n 0, 1) := dk_0 a_Tx_statement_604 (dko_42 _)
theorem d_Tx_statement_605 : decode b_Tx_statement 605 = .ok (.iload_n 1, 1) := dk_0 a_Tx_statement_605 (dko_27 _)
theorem d_Tx_statement_606 : decode b_Tx_statement 606 = .ok (.iload 4, 2) := dk_U1 a_Tx_statement_606 (dko_21 _) rfl
theorem d_Tx_statement_608 : decode b_Tx_statement 608 = .ok (.i2l, 1) := dk_0 a_Tx_statement_608 (dko_133 _)
theorem d_Tx_statement_609 : decode b_Tx_statement 609 = .ok (.iload_n 2, 1) := dk_0 a_Tx_statement_609 (dko_28 _)
theorem d_Tx_statement_610 : decode b_Tx_statement 610 = .ok (.iconst (-1), 1) := dk_0 a_Tx_statement_610 (dko_2 _)
theorem d_Tx_statement_611 : decode b_Tx_statement 611 = .ok (.iload_n 3, 1) := dk_0 a_Tx_statement_611 (dko_29 _)
theorem d_Tx_statement_612 : decode b_Tx_statement 612 = .ok (.invokevirtual 208, 3) := dk_U2 a_Tx_statement_612 (dko_182 _) rfl
theorem d_Tx_statement_615 : decode b_Tx_statement 615 = .ok (.ireturn, 1) := dk_0 a_Tx_statement_615 (dko_172 _)
set_option maxHeartbeats 4000000 in
set_option maxRecDepth 100000 in
theorem ok_Tx_statement (pc : Nat) : OpS mt mi_Tx_statement pc (cs_Tx_statement pc) := (os_n (os_n (os_n (os_n (os_n (os_n (os_n (os_n (os_l (so_aload_n d_Tx_statement_0 rfl)) (os_l (so_get (C := R_Tx) (T := F_Tx) (N := 39) (j := 4) in_Tx rfl (by decide) mw_1583 d_Tx_statement_1))) (os_n (os_l (so_sipush d_Tx_statement_4 (by decide))) (os_l (so_isub d_Tx_statement_7)))) (os_n (os_n (os_l (so_istore_n d_Tx_statement_8 rfl (by decide))) (os_l (so_aload_n d_Tx_statement_9 rfl))) (os_n (os_l (so_get (C := R_Tx) (T := F_Tx) (N := 39) (j := 7) in_Tx rfl (by decide) mw_1586 d_Tx_statement_10)) (os_l (so_istore_n d_Tx_statement_13 rfl (by decide)))))) (os_n (os_n (os_n (os_l (so_iload_n d_Tx_statement_14 rfl)) (os_l (so_bipush d_Tx_statement_15 (by decide)))) (os_n (os_l (so_iclt d_Tx_statement_17 (by decide))) (os_l (so_iload_n d_Tx_statement_20 rfl)))) (os_n (os_n (os_l (so_bipush d_Tx_statement_21 (by decide))) (os_l (so_icle d_Tx_statement_23 (by decide)))) (os_n (os_l (so_aload_n d_Tx_statement_26 rfl)) (os_l (so_callV (iv := mi_Tx_bad) rfl rfl rfl mw_2255 mw_2257 sl_120 mw_19 mw_2258 ⟨by decide +kernel, by decide +kernel, by decide +kernel⟩ (by decide) d_Tx_statement_27)))))) (os_n (os_n (os_n (os_n (os_l (so_ireturn rfl d_Tx_statement_30)) (os_l (so_aload_n d_Tx_statement_31 rfl))) (os_n (os_l (so_callV (iv := mi_Tx_go) rfl rfl rfl mw_2182 mw_2184 sl_111 mw_19 mw_2185 ⟨by decide +kernel, by decide +kernel, by decide +kernel⟩ (by decide) d_Tx_statement_32)) (os_l (so_ifne d_Tx_statement_35 (by decide))))) (os_n (os_n (os_l (so_iconst d_Tx_statement_38 (by decide))) (os_l (so_ireturn rfl d_Tx_statement_39))) (os_n (os_l (so_aload_n d_Tx_statement_40 rfl)) (os_l (so_get (C := R_Tx) (T := F_Tx) (N := 39) (j := 35) in_Tx rfl (by decide) mw_1623 d_Tx_statement_41))))) (os_n (os_n (os_n (os_l (so_istore_n d_Tx_statement_44 rfl (by decide))) (os_l (so_iconst d_Tx_statement_45 (by decide)))) (os_n (os_l (so_istore d_Tx_statement_46 (by decide))) (os_l (so_iconst d_Tx_statement_48 (by decide))))) (os_n (os_n (os_l (so_istore d_Tx_statement_49 (by decide))) (os_l (so_iload_n d_Tx_statement_51 rfl))) (os_n (os_l (so_tab d_Tx_statement_52 (by decide) (by decide) (by decide))) (os_n (os_l (so_aload_n d_Tx_statement_120 rfl)) (os_l (so_bipush d_Tx_statement_121 (by decide))))))))) (os_n (os_n (os_n (os_n (os_n (os_l (so_callV (iv := mi_Tx_known) rfl rfl rfl mw_2275 mw_2277 sl_125 mw_19 mw_2278 ⟨by decide +kernel, by decide +kernel, by decide +kernel⟩ (by decide) d_Tx_statement_123)) (os_l (so_istore d_Tx_statement_126 (by decide)))) (os_n (os_l (so_iload d_Tx_statement_128)) (os_l (so_iflt d_Tx_statement_130 (by decide))))) (os_n (os_n (os_l (so_aload_n d_Tx_statement_133 rfl)) (os_l (so_aload_n d_Tx_statement_134 rfl))) (os_n (os_l (so_get (C := R_Tx) (T := F_Tx) (N := 39) (j := 28) in_Tx rfl (by decide) mw_1613 d_Tx_statement_135)) (os_l (so_bipush d_Tx_statement_138 (by decide)))))) (os_n (os_n (os_n (os_l (so_iconst d_Tx_statement_140 (by decide))) (os_l (so_aload_n d_Tx_statement_141 rfl))) (os_n (os_l (so_get (C := R_Tx) (T := F_Tx) (N := 39) (j := 12) in_Tx rfl (by decide) mw_1591 d_Tx_statement_142)) (os_l (so_isub d_Tx_statement_145)))) (os_n (os_n (os_l (so_imul d_Tx_statement_146)) (os_l (so_iload d_Tx_statement_147))) (os_n (os_l (so_iadd d_Tx_statement_149)) (os_n (os_l (so_iaload d_Tx_statement_150)) (os_l (so_callV (iv := mi_Tx_sumOf) rfl rfl rfl mw_2279 mw_2281 sl_126 mw_19 mw_2282 ⟨by decide +kernel, by decide +kernel, by decide +kernel⟩ (by decide) d_Tx_statement_151))))))) (os_n (os_n (os_n (os_n (os_l (so_ifeq d_Tx_statement_154 (by decide))) (os_l (so_iload_n d_Tx_statement_157 rfl))) (os_n (os_l (so_bipush d_Tx_statement_158 (by decide))) (os_l (so_iceq d_Tx_statement_160 (by decide))))) (os_n (os_n (os_l (so_aload_n d_Tx_statement_163 rfl)) (os_l (so_sipush d_Tx_statement_164 (by decide)))) (os_n (os_l (so_callV (iv := mi_Tx_over) rfl rfl rfl mw_2263 mw_2265 sl_122 mw_19 mw_2266 ⟨by decide +kernel, by decide +kernel, by decide +kernel⟩ (by decide) d_Tx_statement_167)) (os_l (so_ifeq d_Tx_statement_170 (by decide)))))) (os_n (os_n (os_n (os_l (so_aload_n d_Tx_statement_173 rfl)) (os_l (so_iconst d_Tx_statement_174 (by decide)))) (os_n (os_l (so_callV (iv := mi_Tx_sumOf) rfl rfl rfl mw_2279 mw_2281 sl_126 mw_19 mw_2282 ⟨by decide +kernel, by decide +kernel, by decide +kernel⟩ (by decide) d_Tx_statement_175)) (os_l (so_ifeq d_Tx_statement_178 (by decide))))) (os_n (os_n (os_l (so_aload_n d_Tx_statement_181 rfl)) (os_l (so_bipush d_Tx_statement_182 (by decide)))) (os_n (os_l (so_callV (iv := mi_Tx_over) rfl rfl rfl mw_2263 mw_2265 sl_122 mw_19 mw_2266 ⟨by decide +kernel, by decide +kernel, by decide +kernel⟩ (by decide) d_Tx_statement_184)) (os_n (os_l (so_ifeq d_Tx_statement_187 (by decide))) (os_l (so_iconst d_Tx_statement_190 (by decide)))))))))) (os_n (os_n (os_n (os_n (os_n (os_n (os_l (so_goto d_Tx_statement_191 (by decide))) (os_l (so_iconst d_Tx_statement_194 (by decide)))) (os_n (os_l (so_istore d_Tx_statement_195 (by decide))) (os_l (so_goto d_Tx_statement_197 (by decide))))) (os_n (os_n (os_l (so_aload_n d_Tx_statement_200 rfl)) (os_l (so_iconst d_Tx_statement_201 (by decide)))) (os_n (os_l (so_callV (iv := mi_Tx_sumOf) rfl rfl rfl mw_2279 mw_2281 sl_126 mw_19 mw_2282 ⟨by decide +kernel, by decide +kernel, by decide +kernel⟩ (by decide) d_Tx_statement_202)) (os_l (so_ifeq d_Tx_statement_205 (by decide)))))) (os_n (os_n (os_n (os_l (so_aload_n d_Tx_statement_208 rfl)) (os_l (so_bipush d_Tx_statement_209 (by decide)))) (os_n (os_l (so_callV (iv := mi_Tx_over) rfl rfl rfl mw_2263 mw_2265 sl_122 mw_19 mw_2266 ⟨by decide +kernel, by decide +kernel, by decide +kernel⟩ (by decide) d_Tx_statement_211)) (os_l (so_ifeq d_Tx_statement_214 (by decide))))) (os_n (os_n (os_l (so_iconst d_Tx_statement_217 (by decide))) (os_l (so_goto d_Tx_statement_218 (by decide)))) (os_n (os_l (so_iconst d_Tx_statement_221 (by decide))) (os_n (os_l (so_istore d_Tx_statement_222 (by decide))) (os_l (so_goto d_Tx_statement_224 (by decide)))))))) (os_n (os_n (os_n (os_n (os_l (so_aload_n d_Tx_statement_227 rfl)) (os_l (so_aload_n d_Tx_statement_228 rfl))) (os_n (os_l (so_callV (iv := mi_Tx_test) rfl rfl rfl mw_2322 mw_2324 sl_136 mw_19 mw_2325 ⟨by decide +kernel, by decide +kernel, by decide +kernel⟩ (by decide) d_Tx_statement_229)) (os_l (so_callV (iv := mi_Tx_pushed) rfl rfl rfl mw_2326 mw_2328 sl_137 mw_19 mw_2329 ⟨by decide +kernel, by decide +kernel, by decide +kernel⟩ (by decide) d_Tx_statement_232)))) (os_n (os_n (os_l (so_ifeq d_Tx_statement_235 (by decide))) (os_l (so_aload_n d_Tx_statement_238 rfl))) (os_n (os_l (so_bipush d_Tx_statement_239 (by decide))) (os_l (so_callV (iv := mi_Tx_over) rfl rfl rfl mw_2263 mw_2265 sl_122 mw_19 mw_2266 ⟨by decide +kernel, by decide +kernel, by decide +kernel⟩ (by decide) d_Tx_statement_241))))) (os_n (os_n (os_n (os_l (so_ifeq d_Tx_statement_244 (by decide))) (os_l (so_iconst d_Tx_statement_247 (by decide)))) (os_n (os_l (so_goto d_Tx_statement_248 (by decide))) (os_l (so_iconst d_Tx_statement_251 (by decide))))) (os_n (os_n (os_l (so_istore d_Tx_statement_252 (by decide))) (os_l (so_goto d_Tx_statement_254 (by decide)))) (os_n (os_l (so_aload_n d_Tx_statement_257 rfl)) (os_n (os_l (so_aload_n d_Tx_statement_258 rfl)) (os_l (so_callV (iv := mi_Tx_block) rfl rfl rfl mw_2267 mw_2269 sl_123 mw_19 mw_2270 ⟨by decide +kernel, by decide +kernel, by decide +kernel⟩ (by decide) d_Tx_statement_259)))))))) (os_n (os_n (os_n (os_n (os_n (os_l (so_callV (iv := mi_Tx_pushed) rfl rfl rfl mw_2326 mw_2328 sl_137 mw_19 mw_2329 ⟨by decide +kernel, by decide +kernel, by decide +kernel⟩ (by decide) d_Tx_statement_262)) (os_l (so_ifeq d_Tx_statement_265 (by decide)))) (os_n (os_l (so_aload_n d_Tx_statement_268 rfl)) (os_l (so_aload_n d_Tx_statement_269 rfl)))) (os_n (os_n (os_l (so_callV (iv := mi_Tx_block) rfl rfl rfl mw_2267 mw_2269 sl_123 mw_19 mw_2270 ⟨by decide +kernel, by decide +kernel, by decide +kernel⟩ (by decide) d_Tx_statement_270)) (os_l (so_callV (iv := mi_Tx_pushed) rfl rfl rfl mw_2326 mw_2328 sl_137 mw_19 mw_2329 ⟨by decide +kernel, by decide +kernel, by decide +kernel⟩ (by decide) d_Tx_statement_273))) (os_n (os_l (so_ifeq d_Tx_statement_276 (by decide))) (os_l (so_iconst d_Tx_statement_279 (by decide)))))) (os_n (os_n (os_n (os_l (so_goto d_Tx_statement_280 (by decide))) (os_l (so_iconst d_Tx_statement_283 (by decide)))) (os_n (os_l (so_istore d_Tx_statement_284 (by decide))) (os_l (so_iload d_Tx_statement_286)))) (os_n (os_n (os_l (so_ifeq d_Tx_statement_288 (by decide))) (os_l (so_aload_n d_Tx_statement_291 rfl))) (os_n (os_l (so_get (C := R_Tx) (T := F_Tx) (N := 39) (j := 4) in_Tx rfl (by decide) mw_1583 d_Tx_statement_292)) (os_n (os_l (so_bipush d_Tx_statement_295 (by decide))) (os_l (so_icne d_Tx_statement_297 (by decide)))))))) (os_n (os_n (os_n (os_n (os_l (so_aload_n d_Tx_statement_300 rfl)) (os_l (so_aload_n d_Tx_statement_301 rfl))) (os_n (os_l (so_callV (iv := mi_Tx_block) rfl rfl rfl mw_2267 mw_2269 sl_123 mw_19 mw_2270 ⟨by decide +kernel, by decide +kernel, by decide +kernel⟩ (by decide) d_Tx_statement_302)) (os_l (so_callV (iv := mi_Tx_pushed) rfl rfl rfl mw_2326 mw_2328 sl_137 mw_19 mw_2329 ⟨by decide +kernel, by decide +kernel, by decide +kernel⟩ (by decide) d_Tx_statement_305)))) (os_n (os_n (os_l (so_istore d_Tx_statement_308 (by decide))) (os_l (so_goto d_Tx_statement_310 (by decide)))) (os_n (os_l (so_aload_n d_Tx_statement_313 rfl)) (os_l (so_aload_n d_Tx_statement_314 rfl))))) (os_n (os_n (os_n (os_l (so_callV (iv := mi_Tx_test) rfl rfl rfl mw_2322 mw_2324 sl_136 mw_19 mw_2325 ⟨by decide +kernel, by decide +kernel, by decide +kernel⟩ (by decide) d_Tx_statement_315)) (os_l (so_callV (iv := mi_Tx_pushed) rfl rfl rfl mw_2326 mw_2328 sl_137 mw_19 mw_2329 ⟨by decide +kernel, by decide +kernel, by decide +kernel⟩ (by decide) d_Tx_statement_318))) (os_n (os_l (so_ifeq d_Tx_statement_321 (by decide))) (os_l (so_aload_n d_Tx_statement_324 rfl)))) (os_n (os_n (os_l (so_aload_n d_Tx_statement_325 rfl)) (os_l (so_callV (iv := mi_Tx_block) rfl rfl rfl mw_2267 mw_2269 sl_123 mw_19 mw_2270 ⟨by decide +kernel, by decide +kernel, by decide +kernel⟩ (by decide) d_Tx_statement_326))) (os_n (os_l (so_callV (iv := mi_Tx_pushed) rfl rfl rfl mw_2326 mw_2328 sl_137 mw_19 mw_2329 ⟨by decide +kernel, by decide +kernel, by decide +kernel⟩ (by decide) d_Tx_statement_329)) (os_n (os_l (so_ifeq d_Tx_statement_332 (by decide))) (os_l (so_iconst d_Tx_statement_335 (by decide))))))))))) (os_n (os_n (os_n (os_n (os_n (os_n (os_n (os_l (so_goto d_Tx_statement_336 (by decide))) (os_l (so_iconst d_Tx_statement_339 (by decide)))) (os_n (os_l (so_istore d_Tx_statement_340 (by decide))) (os_l (so_iload d_Tx_statement_342)))) (os_n (os_n (os_l (so_ifeq d_Tx_statement_344 (by decide))) (os_l (so_aload_n d_Tx_statement_347 rfl))) (os_n (os_l (so_bipush d_Tx_statement_348 (by decide))) (os_l (so_callV (iv := mi_Tx_isWord) rfl rfl rfl mw_2239 mw_2241 sl_116 mw_19 mw_2242 ⟨by decide +kernel, by decide +kernel, by decide +kernel⟩ (by decide) d_Tx_statement_350))))) (os_n (os_n (os_n (os_l (so_ifeq d_Tx_statement_353 (by decide))) (os_l (so_aload_n d_Tx_statement_356 rfl))) (os_n (os_l (so_callV (iv := mi_Tx_go) rfl rfl rfl mw_2182 mw_2184 sl_111 mw_19 mw_2185 ⟨by decide +kernel, by decide +kernel, by decide +kernel⟩ (by decide) d_Tx_statement_357)) (os_l (so_ifeq d_Tx_statement_360 (by decide))))) (os_n (os_n (os_l (so_aload_n d_Tx_statement_363 rfl)) (os_l (so_aload_n d_Tx_statement_364 rfl))) (os_n (os_l (so_callV (iv := mi_Tx_block) rfl rfl rfl mw_2267 mw_2269 sl_123 mw_19 mw_2270 ⟨by decide +kernel, by decide +kernel, by decide +kernel⟩ (by decide) d_Tx_statement_365)) (os_n (os_l (so_callV (iv := mi_Tx_pushed) rfl rfl rfl mw_2326 mw_2328 sl_137 mw_19 mw_2329 ⟨by decide +kernel, by decide +kernel, by decide +kernel⟩ (by decide) d_Tx_statement_368)) (os_l (so_ifeq d_Tx_statement_371 (by decide)))))))) (os_n (os_n (os_n (os_n (os_l (so_iconst d_Tx_statement_374 (by decide))) (os_l (so_goto d_Tx_statement_375 (by decide)))) (os_n (os_l (so_iconst d_Tx_statement_378 (by decide))) (os_l (so_istore d_Tx_statement_379 (by decide))))) (os_n (os_n (os_l (so_goto d_Tx_statement_381 (by decide))) (os_l (so_aload_n d_Tx_statement_384 rfl))) (os_n (os_l (so_iconst d_Tx_statement_385 (by decide))) (os_l (so_callV (iv := mi_Tx_sumOf) rfl rfl rfl mw_2279 mw_2281 sl_126 mw_19 mw_2282 ⟨by decide +kernel, by decide +kernel, by decide +kernel⟩ (by decide) d_Tx_statement_386))))) (os_n (os_n (os_n (os_l (so_ifeq d_Tx_statement_389 (by decide))) (os_l (so_aload_n d_Tx_statement_392 rfl))) (os_n (os_l (so_aload_n d_Tx_statement_393 rfl)) (os_l (so_callV (iv := mi_Tx_block) rfl rfl rfl mw_2267 mw_2269 sl_123 mw_19 mw_2270 ⟨by decide +kernel, by decide +kernel, by decide +kernel⟩ (by decide) d_Tx_statement_394)))) (os_n (os_n (os_l (so_callV (iv := mi_Tx_pushed) rfl rfl rfl mw_2326 mw_2328 sl_137 mw_19 mw_2329 ⟨by decide +kernel, by decide +kernel, by decide +kernel⟩ (by decide) d_Tx_statement_397)) (os_l (so_ifeq d_Tx_statement_400 (by decide)))) (os_n (os_l (so_iconst d_Tx_statement_403 (by decide))) (os_n (os_l (so_goto d_Tx_statement_404 (by decide))) (os_l (so_iconst d_Tx_statement_407 (by decide))))))))) (os_n (os_n (os_n (os_n (os_n (os_l (so_istore d_Tx_statement_408 (by decide))) (os_l (so_goto d_Tx_statement_410 (by decide)))) (os_n (os_l (so_aload_n d_Tx_statement_413 rfl)) (os_l (so_aload_n d_Tx_statement_414 rfl)))) (os_n (os_n (os_l (so_callV (iv := mi_Tx_test) rfl rfl rfl mw_2322 mw_2324 sl_136 mw_19 mw_2325 ⟨by decide +kernel, by decide +kernel, by decide +kernel⟩ (by decide) d_Tx_statement_415)) (os_l (so_callV (iv := mi_Tx_pushed) rfl rfl rfl mw_2326 mw_2328 sl_137 mw_19 mw_2329 ⟨by decide +kernel, by decide +kernel, by decide +kernel⟩ (by decide) d_Tx_statement_418))) (os_n (os_l (so_ifeq d_Tx_statement_421 (by decide))) (os_l (so_aload_n d_Tx_statement_424 rfl))))) (os_n (os_n (os_n (os_l (so_aload_n d_Tx_statement_425 rfl)) (os_l (so_callV (iv := mi_Tx_block) rfl rfl rfl mw_2267 mw_2269 sl_123 mw_19 mw_2270 ⟨by decide +kernel, by decide +kernel, by decide +kernel⟩ (by decide) d_Tx_statement_426))) (os_n (os_l (so_callV (iv := mi_Tx_pushed) rfl rfl rfl mw_2326 mw_2328 sl_137 mw_19 mw_2329 ⟨by decide +kernel, by decide +kernel, by decide +kernel⟩ (by decide) d_Tx_statement_429)) (os_l (so_ifeq d_Tx_statement_432 (by decide))))) (os_n (os_n (os_l (so_aload_n d_Tx_statement_435 rfl)) (os_l (so_sipush d_Tx_statement_436 (by decide)))) (os_n (os_l (so_callV (iv := mi_Tx_over) rfl rfl rfl mw_2263 mw_2265 sl_122 mw_19 mw_2266 ⟨by decide +kernel, by decide +kernel, by decide +kernel⟩ (by decide) d_Tx_statement_439)) (os_n (os_l (so_ifeq d_Tx_statement_442 (by decide))) (os_l (so_aload_n d_Tx_statement_445 rfl))))))) (os_n (os_n (os_n (os_n (os_l (so_aload_n d_Tx_statement_446 rfl)) (os_l (so_callV (iv := mi_Tx_block) rfl rfl rfl mw_2267 mw_2269 sl_123 mw_19 mw_2270 ⟨by decide +kernel, by decide +kernel, by decide +kernel⟩ (by decide) d_Tx_statement_447))) (os_n (os_l (so_callV (iv := mi_Tx_pushed) rfl rfl rfl mw_2326 mw_2328 sl_137 mw_19 mw_2329 ⟨by decide +kernel, by decide +kernel, by decide +kernel⟩ (by decide) d_Tx_statement_450)) (os_l (so_ifeq d_Tx_statement_453 (by decide))))) (os_n (os_n (os_l (so_iconst d_Tx_statement_456 (by decide))) (os_l (so_goto d_Tx_statement_457 (by decide)))) (os_n (os_l (so_iconst d_Tx_statement_460 (by decide))) (os_l (so_istore d_Tx_statement_461 (by decide)))))) (os_n (os_n (os_n (os_l (so_goto d_Tx_statement_463 (by decide))) (os_l (so_aload_n d_Tx_statement_466 rfl))) (os_n (os_l (so_iload_n d_Tx_statement_467 rfl)) (os_l (so_bipush d_Tx_statement_468 (by decide))))) (os_n (os_n (os_l (so_icne d_Tx_statement_470 (by decide))) (os_l (so_bipush d_Tx_statement_473 (by decide)))) (os_n (os_l (so_goto d_Tx_statement_475 (by decide))) (os_n (os_l (so_bipush d_Tx_statement_478 (by decide))) (os_l (so_callV (iv := mi_Tx_known) rfl rfl rfl mw_2275 mw_2277 sl_125 mw_19 mw_2278 ⟨by decide +kernel, by decide +kernel, by decide +kernel⟩ (by decide) d_Tx_statement_480))))))))) (os_n (os_n (os_n (os_n (os_n (os_n (os_l (so_istore d_Tx_statement_483 (by decide))) (os_l (so_iload d_Tx_statement_485))) (os_n (os_l (so_iflt d_Tx_statement_487 (by decide))) (os_l (so_aload_n d_Tx_statement_490 rfl)))) (os_n (os_n (os_l (so_bipush d_Tx_statement_491 (by decide))) (os_l (so_callV (iv := mi_Tx_over) rfl rfl rfl mw_2263 mw_2265 sl_122 mw_19 mw_2266 ⟨by decide +kernel, by decide +kernel, by decide +kernel⟩ (by decide) d_Tx_statement_493))) (os_n (os_l (so_ifeq d_Tx_statement_496 (by decide))) (os_l (so_iconst d_Tx_statement_499 (by decide)))))) (os_n (os_n (os_n (os_l (so_goto d_Tx_statement_500 (by decide))) (os_l (so_iconst d_Tx_statement_503 (by decide)))) (os_n (os_l (so_istore d_Tx_statement_504 (by decide))) (os_l (so_goto d_Tx_statement_506 (by decide))))) (os_n (os_n (os_l (so_aload_n d_Tx_statement_509 rfl)) (os_l (so_get (C := R_Tx) (T := F_Tx) (N := 39) (j := 4) in_Tx rfl (by decide) mw_1583 d_Tx_statement_510))) (os_n (os_l (so_sipush d_Tx_statement_513 (by decide))) (os_n (os_l (so_icne d_Tx_statement_516 (by decide))) (os_l (so_aload_n d_Tx_statement_519 rfl))))))) (os_n (os_n (os_n (os_n (os_l (so_get (C := R_Tx) (T := F_Tx) (N := 39) (j := 9) in_Tx rfl (by decide) mw_1588 d_Tx_statement_520)) (os_l (so_ifne d_Tx_statement_523 (by decide)))) (os_n (os_l (so_aload_n d_Tx_statement_526 rfl)) (os_l (so_get (C := R_Tx) (T := F_Tx) (N := 39) (j := 8) in_Tx rfl (by decide) mw_1587 d_Tx_statement_527)))) (os_n (os_n (os_l (so_ldc2 mw_2330 d_Tx_statement_530)) (os_l (so_lcmp d_Tx_statement_533))) (os_n (os_l (so_iflt d_Tx_statement_534 (by decide))) (os_l (so_aload_n d_Tx_statement_537 rfl))))) (os_n (os_n (os_n (os_l (so_callV (iv := mi_Tx_bad) rfl rfl rfl mw_2255 mw_2257 sl_120 mw_19 mw_2258 ⟨by decide +kernel, by decide +kernel, by decide +kernel⟩ (by decide) d_Tx_statement_538)) (os_l (so_ireturn rfl d_Tx_statement_541))) (os_n (os_l (so_aload_n d_Tx_statement_542 rfl)) (os_l (so_get (C := R_Tx) (T := F_Tx) (N := 39) (j := 8) in_Tx rfl (by decide) mw_1587 d_Tx_statement_543)))) (os_n (os_n (os_l (so_ldc2 mw_2202 d_Tx_statement_546)) (os_l (so_ldiv d_Tx_statement_549))) (os_n (os_l (so_l2i d_Tx_statement_550)) (os_n (os_l (so_istore d_Tx_statement_551 (by decide))) (os_l (so_aload_n d_Tx_statement_553 rfl)))))))) (os_n (os_n (os_n (os_n (os_n (os_l (so_callV (iv := mi_Tx_go) rfl rfl rfl mw_2182 mw_2184 sl_111 mw_19 mw_2185 ⟨by decide +kernel, by decide +kernel, by decide +kernel⟩ (by decide) d_Tx_statement_554)) (os_l (so_ifeq d_Tx_statement_557 (by decide)))) (os_n (os_l (so_aload_n d_Tx_statement_560 rfl)) (os_l (so_bipush d_Tx_statement_561 (by decide))))) (os_n (os_n (os_l (so_callV (iv := mi_Tx_over) rfl rfl rfl mw_2263 mw_2265 sl_122 mw_19 mw_2266 ⟨by decide +kernel, by decide +kernel, by decide +kernel⟩ (by decide) d_Tx_statement_563)) (os_l (so_ifeq d_Tx_statement_566 (by decide)))) (os_n (os_l (so_iconst d_Tx_statement_569 (by decide))) (os_l (so_goto d_Tx_statement_570 (by decide)))))) (os_n (os_n (os_n (os_l (so_iconst d_Tx_statement_573 (by decide))) (os_l (so_istore d_Tx_statement_574 (by decide)))) (os_n (os_l (so_goto d_Tx_statement_576 (by decide))) (os_l (so_aload_n d_Tx_statement_579 rfl)))) (os_n (os_n (os_l (so_bipush d_Tx_statement_580 (by decide))) (os_l (so_callV (iv := mi_Tx_over) rfl rfl rfl mw_2263 mw_2265 sl_122 mw_19 mw_2266 ⟨by decide +kernel, by decide +kernel, by decide +kernel⟩ (by decide) d_Tx_statement_582))) (os_n (os_l (so_istore d_Tx_statement_585 (by decide))) (os_n (os_l (so_iload d_Tx_statement_587)) (os_l (so_ifne d_Tx_statement_589 (by decide)))))))) (os_n (os_n (os_n (os_n (os_l (so_iconst d_Tx_statement_592 (by decide))) (os_l (so_ireturn rfl d_Tx_statement_593))) (os_n (os_l (so_aload_n d_Tx_statement_594 rfl)) (os_l (so_dup d_Tx_statement_595)))) (os_n (os_n (os_l (so_get (C := R_Tx) (T := F_Tx) (N := 39) (j := 38) in_Tx rfl (by decide) mw_1626 d_Tx_statement_596)) (os_l (so_iconst d_Tx_statement_599 (by decide)))) (os_n (os_l (so_iadd d_Tx_statement_600)) (os_l (so_putI (C := R_Tx) (T := F_Tx) (N := 39) (j := 38) in_Tx t_Tx_ok n_Tx rfl (by decide) mw_1626 rfl (by decide +kernel) d_Tx_statement_601))))) (os_n (os_n (os_n (os_l (so_aload_n d_Tx_statement_604 rfl)) (os_l (so_iload_n d_Tx_statement_605 rfl))) (os_n (os_l (so_iload d_Tx_statement_606)) (os_l (so_i2l d_Tx_statement_608)))) (os_n (os_n (os_l (so_iload_n d_Tx_statement_609 rfl)) (os_l (so_iconst d_Tx_statement_610 (by decide)))) (os_n (os_l (so_iload_n d_Tx_statement_611 rfl)) (os_n (os_l (so_callV (iv := mi_Tx_node0) rfl rfl rfl mw_2302 mw_2304 sl_131 mw_19 mw_2305 ⟨by decide +kernel, by decide +kernel, by decide +kernel⟩ (by decide) d_Tx_statement_612)) (os_l (so_ireturn rfl d_Tx_statement_615)))))))))))
abbrev t_Tx_declaration_184 : List UInt8 := 172 :: []
abbrev t_Tx_declaration_183 : List UInt8 := 4 :: t_Tx_declaration_184
abbrev t_Tx_declaration_180 : List UInt8 := 181 :: 1 :: 25 :: t_Tx_declaration_183
abbrev t_Tx_declaration_179 : List UInt8 := 96 :: t_Tx_declaration_180
abbrev t_Tx_declaration_178 : List UInt8 := 4 :: t_Tx_declaration_179
abbrev t_Tx_declaration_175 : List UInt8 := 180 :: 1 :: 25 :: t_Tx_declaration_178
abbrev t_Tx_declaration_174 : List UInt8 := 89 :: t_Tx_declaration_175
abbrev t_Tx_declaration_173 : List UInt8 := 42 :: t_Tx_declaration_174
abbrev t_Tx_declaration_172 : List UInt8 := 79 :: t_Tx_declaration_173
abbrev t_Tx_declaration_170 : List UInt8 := 21 :: 5 :: t_Tx_declaration_172
abbrev t_Tx_declaration_169 : List UInt8 := 96 :: t_Tx_declaration_170
abbrev t_Tx_declaration_166 : List UInt8 := 180 :: 1 :: 25 :: t_Tx_declaration_169
abbrev t_Tx_declaration_165 : List UInt8 := 42 :: t_Tx_declaration_166
abbrev t_Tx_declaration_162 : List UInt8 := 182 :: 0 :: 195 :: t_Tx_declaration_165
abbrev t_Tx_declaration_161 : List UInt8 := 42 :: t_Tx_declaration_162
abbrev t_Tx_declaration_158 : List UInt8 := 180 :: 0 :: 38 :: t_Tx_declaration_161
abbrev t_Tx_declaration_157 : List UInt8 := 42 :: t_Tx_declaration_158
abbrev t_Tx_declaration_156 : List UInt8 := 79 :: t_Tx_declaration_157
abbrev t_Tx_declaration_154 : List UInt8 := 21 :: 5 :: t_Tx_declaration_156
abbrev t_Tx_declaration_153 : List UInt8 := 96 :: t_Tx_declaration_154
abbrev t_Tx_declaration_152 : List UInt8 := 29 :: t_Tx_declaration_153
abbrev t_Tx_declaration_151 : List UInt8 := 104 :: t_Tx_declaration_152
abbrev t_Tx_declaration_150 : List UInt8 := 100 :: t_Tx_declaration_151
abbrev t_Tx_declaration_147 : List UInt8 := 180 :: 0 :: 186 :: t_Tx_declaration_150
abbrev t_Tx_declaration_146 : List UInt8 := 42 :: t_Tx_declaration_147
abbrev t_Tx_declaration_145 : List UInt8 := 4 :: t_Tx_declaration_146
abbrev t_Tx_declaration_143 : List UInt8 := 16 :: 40 :: t_Tx_declaration_145
abbrev t_Tx_declaration_140 : List UInt8 := 180 :: 0 :: 53 :: t_Tx_declaration_143
abbrev t_Tx_declaration_139 : List UInt8 := 42 :: t_Tx_declaration_140
abbrev t_Tx_declaration_138 : List UInt8 := 172 :: t_Tx_declaration_139
abbrev t_Tx_declaration_137 : List UInt8 := 3 :: t_Tx_declaration_138
abbrev t_Tx_declaration_134 : List UInt8 := 156 :: 0 :: 5 :: t_Tx_declaration_137
abbrev t_Tx_declaration_132 : List UInt8 := 21 :: 5 :: t_Tx_declaration_134
abbrev t_Tx_declaration_130 : List UInt8 := 54 :: 5 :: t_Tx_declaration_132
abbrev t_Tx_declaration_127 : List UInt8 := 182 :: 0 :: 208 :: t_Tx_declaration_130
abbrev t_Tx_declaration_125 : List UInt8 := 21 :: 4 :: t_Tx_declaration_127
abbrev t_Tx_declaration_124 : List UInt8 := 2 :: t_Tx_declaration_125
abbrev t_Tx_declaration_123 : List UInt8 := 28 :: t_Tx_declaration_124
abbrev t_Tx_declaration_122 : List UInt8 := 133 :: t_Tx_declaration_123
abbrev t_Tx_declaration_121 : List UInt8 := 29 :: t_Tx_declaration_122
abbrev t_Tx_declaration_119 : List UInt8 := 16 :: 24 :: t_Tx_declaration_121
abbrev t_Tx_declaration_118 : List UInt8 := 42 :: t_Tx_declaration_119
abbrev t_Tx_declaration_117 : List UInt8 := 172 :: t_Tx_declaration_118
abbrev t_Tx_declaration_116 : List UInt8 := 3 :: t_Tx_declaration_117
abbrev t_Tx_declaration_113 : List UInt8 := 154 :: 0 :: 5 :: t_Tx_declaration_116
abbrev t_Tx_declaration_110 : List UInt8 := 182 :: 1 :: 11 :: t_Tx_declaration_113
abbrev t_Tx_declaration_107 : List UInt8 := 182 :: 1 :: 14 :: t_Tx_declaration_110
abbrev t_Tx_declaration_106 : List UInt8 := 42 :: t_Tx_declaration_107
abbrev t_Tx_declaration_105 : List UInt8 := 42 :: t_Tx_declaration_106
abbrev t_Tx_declaration_103 : List UInt8 := 54 :: 4 :: t_Tx_declaration_105
abbrev t_Tx_declaration_100 : List UInt8 := 180 :: 0 :: 201 :: t_Tx_declaration_103
abbrev t_Tx_declaration_99 : List UInt8 := 42 :: t_Tx_declaration_100
abbrev t_Tx_declaration_98 : List UInt8 := 172 :: t_Tx_declaration_99
abbrev t_Tx_declaration_97 : List UInt8 := 3 :: t_Tx_declaration_98
abbrev t_Tx_declaration_94 : List UInt8 := 167 :: 0 :: 4 :: t_Tx_declaration_97
abbrev t_Tx_declaration_93 : List UInt8 := 4 :: t_Tx_declaration_94
abbrev t_Tx_declaration_90 : List UInt8 := 153 :: 0 :: 7 :: t_Tx_declaration_93
abbrev t_Tx_declaration_87 : List UInt8 := 182 :: 0 :: 234 :: t_Tx_declaration_90
abbrev t_Tx_declaration_85 : List UInt8 := 16 :: 59 :: t_Tx_declaration_87
abbrev t_Tx_declaration_84 : List UInt8 := 42 :: t_Tx_declaration_85
abbrev t_Tx_declaration_81 : List UInt8 := 153 :: 0 :: 16 :: t_Tx_declaration_84
abbrev t_Tx_declaration_78 : List UInt8 := 182 :: 0 :: 182 :: t_Tx_declaration_81
abbrev t_Tx_declaration_77 : List UInt8 := 42 :: t_Tx_declaration_78
abbrev t_Tx_declaration_74 : List UInt8 := 153 :: 0 :: 10 :: t_Tx_declaration_77
abbrev t_Tx_declaration_72 : List UInt8 := 21 :: 4 :: t_Tx_declaration_74
abbrev t_Tx_declaration_71 : List UInt8 := 79 :: t_Tx_declaration_72
abbrev t_Tx_declaration_69 : List UInt8 := 21 :: 4 :: t_Tx_declaration_71
abbrev t_Tx_declaration_68 : List UInt8 := 96 :: t_Tx_declaration_69
abbrev t_Tx_declaration_67 : List UInt8 := 29 :: t_Tx_declaration_68
abbrev t_Tx_declaration_66 : List UInt8 := 104 :: t_Tx_declaration_67
abbrev t_Tx_declaration_65 : List UInt8 := 100 :: t_Tx_declaration_66
abbrev t_Tx_declaration_62 : List UInt8 := 180 :: 0 :: 186 :: t_Tx_declaration_65
abbrev t_Tx_declaration_61 : List UInt8 := 42 :: t_Tx_declaration_62
abbrev t_Tx_declaration_60 : List UInt8 := 4 :: t_Tx_declaration_61
abbrev t_Tx_declaration_58 : List UInt8 := 16 :: 40 :: t_Tx_declaration_60
abbrev t_Tx_declaration_55 : List UInt8 := 180 :: 0 :: 50 :: t_Tx_declaration_58
abbrev t_Tx_declaration_54 : List UInt8 := 42 :: t_Tx_declaration_55
abbrev t_Tx_declaration_52 : List UInt8 := 54 :: 4 :: t_Tx_declaration_54
abbrev t_Tx_declaration_49 : List UInt8 := 182 :: 0 :: 243 :: t_Tx_declaration_52
abbrev t_Tx_declaration_48 : List UInt8 := 42 :: t_Tx_declaration_49
abbrev t_Tx_declaration_45 : List UInt8 := 159 :: 0 :: 54 :: t_Tx_declaration_48
abbrev t_Tx_declaration_43 : List UInt8 := 16 :: 24 :: t_Tx_declaration_45
abbrev t_Tx_declaration_42 : List UInt8 := 27 :: t_Tx_declaration_43
abbrev t_Tx_declaration_41 : List UInt8 := 172 :: t_Tx_declaration_42
abbrev t_Tx_declaration_40 : List UInt8 := 3 :: t_Tx_declaration_41
abbrev t_Tx_declaration_37 : List UInt8 := 154 :: 0 :: 5 :: t_Tx_declaration_40
abbrev t_Tx_declaration_34 : List UInt8 := 182 :: 0 :: 182 :: t_Tx_declaration_37
abbrev t_Tx_declaration_33 : List UInt8 := 42 :: t_Tx_declaration_34
abbrev t_Tx_declaration_30 : List UInt8 := 155 :: 0 :: 10 :: t_Tx_declaration_33
abbrev t_Tx_declaration_29 : List UInt8 := 29 :: t_Tx_declaration_30
abbrev t_Tx_declaration_28 : List UInt8 := 62 :: t_Tx_declaration_29
abbrev t_Tx_declaration_25 : List UInt8 := 182 :: 1 :: 22 :: t_Tx_declaration_28
abbrev t_Tx_declaration_24 : List UInt8 := 27 :: t_Tx_declaration_25
abbrev t_Tx_declaration_23 : List UInt8 := 42 :: t_Tx_declaration_24
abbrev t_Tx_declaration_22 : List UInt8 := 172 :: t_Tx_declaration_23
abbrev t_Tx_declaration_21 : List UInt8 := 3 :: t_Tx_declaration_22
abbrev t_Tx_declaration_18 : List UInt8 := 154 :: 0 :: 5 :: t_Tx_declaration_21
abbrev t_Tx_declaration_15 : List UInt8 := 182 :: 0 :: 182 :: t_Tx_declaration_18
abbrev t_Tx_declaration_14 : List UInt8 := 42 :: t_Tx_declaration_15
abbrev t_Tx_declaration_13 : List UInt8 := 61 :: t_Tx_declaration_14
abbrev t_Tx_declaration_10 : List UInt8 := 180 :: 0 :: 143 :: t_Tx_declaration_13
abbrev t_Tx_declaration_9 : List UInt8 := 42 :: t_Tx_declaration_10
abbrev t_Tx_declaration_8 : List UInt8 := 60 :: t_Tx_declaration_9
abbrev t_Tx_declaration_7 : List UInt8 := 100 :: t_Tx_declaration_8
abbrev t_Tx_declaration_4 : List UInt8 := 17 :: 3 :: 232 :: t_Tx_declaration_7
abbrev t_Tx_declaration_1 : List UInt8 := 180 :: 0 :: 146 :: t_Tx_declaration_4
abbrev t_Tx_declaration_0 : List UInt8 := 42 :: t_Tx_declaration_1
theorem a_Tx_declaration_0 : dk_at b_Tx_declaration 0 t_Tx_declaration_0 := dk_start (by decide +kernel)
theorem a_Tx_declaration_1 : dk_at b_Tx_declaration 1 t_Tx_declaration_1 := dk_go 1 a_Tx_declaration_0 rfl
theorem a_Tx_declaration_4 : dk_at b_Tx_declaration 4 t_Tx_declaration_4 := dk_go 3 a_Tx_declaration_1 rfl
theorem a_Tx_declaration_7 : dk_at b_Tx_declaration 7 t_Tx_declaration_7 := dk_go 3 a_Tx_declaration_4 rfl
theorem a_Tx_declaration_8 : dk_at b_Tx_declaration 8 t_Tx_declaration_8 := dk_go 1 a_Tx_declaration_7 rfl
theorem a_Tx_declaration_9 : dk_at b_Tx_declaration 9 t_Tx_declaration_9 := dk_go 1 a_Tx_declaration_8 rfl
theorem a_Tx_declaration_10 : dk_at b_Tx_declaration 10 t_Tx_declaration_10 := dk_go 1 a_Tx_declaration_9 rfl
theorem a_Tx_declaration_13 : dk_at b_Tx_declaration 13 t_Tx_declaration_13 := dk_go 3 a_Tx_declaration_10 rfl
theorem a_Tx_declaration_14 : dk_at b_Tx_declaration 14 t_Tx_declaration_14 := dk_go 1 a_Tx_declaration_13 rfl
theorem a_Tx_declaration_15 : dk_at b_Tx_declaration 15 t_Tx_declaration_15 := dk_go 1 a_Tx_declaration_14 rfl
theorem a_Tx_declaration_18 : dk_at b_Tx_declaration 18 t_Tx_declaration_18 := dk_go 3 a_Tx_declaration_15 rfl
theorem a_Tx_declaration_21 : dk_at b_Tx_declaration 21 t_Tx_declaration_21 := dk_go 3 a_Tx_declaration_18 rfl
theorem a_Tx_declaration_22 : dk_at b_Tx_declaration 22 t_Tx_declaration_22 := dk_go 1 a_Tx_declaration_21 rfl
theorem a_Tx_declaration_23 : dk_at b_Tx_declaration 23 t_Tx_declaration_23 := dk_go 1 a_Tx_declaration_22 rfl
theorem a_Tx_declaration_24 : dk_at b_Tx_declaration 24 t_Tx_declaration_24 := dk_go 1 a_Tx_declaration_23 rfl
theorem a_Tx_declaration_25 : dk_at b_Tx_declaration 25 t_Tx_declaration_25 := dk_go 1 a_Tx_declaration_24 rfl
theorem a_Tx_declaration_28 : dk_at b_Tx_declaration 28 t_Tx_declaration_28 := dk_go 3 a_Tx_declaration_25 rfl
theorem a_Tx_declaration_29 : dk_at b_Tx_declaration 29 t_Tx_declaration_29 := dk_go 1 a_Tx_declaration_28 rfl
theorem a_Tx_declaration_30 : dk_at b_Tx_declaration 30 t_Tx_declaration_30 := dk_go 1 a_Tx_declaration_29 rfl
theorem a_Tx_declaration_33 : dk_at b_Tx_declaration 33 t_Tx_declaration_33 := dk_go 3 a_Tx_declaration_30 rfl
theorem a_Tx_declaration_34 : dk_at b_Tx_declaration 34 t_Tx_declaration_34 := dk_go 1 a_Tx_declaration_33 rfl
theorem a_Tx_declaration_37 : dk_at b_Tx_declaration 37 t_Tx_declaration_37 := dk_go 3 a_Tx_declaration_34 rfl
theorem a_Tx_declaration_40 : dk_at b_Tx_declaration 40 t_Tx_declaration_40 := dk_go 3 a_Tx_declaration_37 rfl
theorem a_Tx_declaration_41 : dk_at b_Tx_declaration 41 t_Tx_declaration_41 := dk_go 1 a_Tx_declaration_40 rfl
theorem a_Tx_declaration_42 : dk_at b_Tx_declaration 42 t_Tx_declaration_42 := dk_go 1 a_Tx_declaration_41 rfl
theorem a_Tx_declaration_43 : dk_at b_Tx_declaration 43 t_Tx_declaration_43 := dk_go 1 a_Tx_declaration_42 rfl
theorem a_Tx_declaration_45 : dk_at b_Tx_declaration 45 t_Tx_declaration_45 := dk_go 2 a_Tx_declaration_43 rfl
theorem a_Tx_declaration_48 : dk_at b_Tx_declaration 48 t_Tx_declaration_48 := dk_go 3 a_Tx_declaration_45 rfl
theorem a_Tx_declaration_49 : dk_at b_Tx_declaration 49 t_Tx_declaration_49 := dk_go 1 a_Tx_declaration_48 rfl
theorem a_Tx_declaration_52 : dk_at b_Tx_declaration 52 t_Tx_declaration_52 := dk_go 3 a_Tx_declaration_49 rfl
theorem a_Tx_declaration_54 : dk_at b_Tx_declaration 54 t_Tx_declaration_54 := dk_go 2 a_Tx_declaration_52 rfl
theorem a_Tx_declaration_55 : dk_at b_Tx_declaration 55 t_Tx_declaration_55 := dk_go 1 a_Tx_declaration_54 rfl
theorem a_Tx_declaration_58 : dk_at b_Tx_declaration 58 t_Tx_declaration_58 := dk_go 3 a_Tx_declaration_55 rfl
theorem a_Tx_declaration_60 : dk_at b_Tx_declaration 60 t_Tx_declaration_60 := dk_go 2 a_Tx_declaration_58 rfl
theorem a_Tx_declaration_61 : dk_at b_Tx_declaration 61 t_Tx_declaration_61 := dk_go 1 a_Tx_declaration_60 rfl
theorem a_Tx_declaration_62 : dk_at b_Tx_declaration 62 t_Tx_declaration_62 := dk_go 1 a_Tx_declaration_61 rfl
theorem a_Tx_declaration_65 : dk_at b_Tx_declaration 65 t_Tx_declaration_65 := dk_go 3 a_Tx_declaration_62 rfl
theorem a_Tx_declaration_66 : dk_at b_Tx_declaration 66 t_Tx_declaration_66 := dk_go 1 a_Tx_declaration_65 rfl
theorem a_Tx_declaration_67 : dk_at b_Tx_declaration 67 t_Tx_declaration_67 := dk_go 1 a_Tx_declaration_66 rfl
theorem a_Tx_declaration_68 : dk_at b_Tx_declaration 68 t_Tx_declaration_68 := dk_go 1 a_Tx_declaration_67 rfl
theorem a_Tx_declaration_69 : dk_at b_Tx_declaration 69 t_Tx_declaration_69 := dk_go 1 a_Tx_declaration_68 rfl
theorem a_Tx_declaration_71 : dk_at b_Tx_declaration 71 t_Tx_declaration_71 := dk_go 2 a_Tx_declaration_69 rfl
theorem a_Tx_declaration_72 : dk_at b_Tx_declaration 72 t_Tx_declaration_72 := dk_go 1 a_Tx_declaration_71 rfl
theorem a_Tx_declaration_74 : dk_at b_Tx_declaration 74 t_Tx_declaration_74 := dk_go 2 a_Tx_declaration_72 rfl
theorem a_Tx_declaration_77 : dk_at b_Tx_declaration 77 t_Tx_declaration_77 := dk_go 3 a_Tx_declaration_74 rfl
theorem a_Tx_declaration_78 : dk_at b_Tx_declaration 78 t_Tx_declaration_78 := dk_go 1 a_Tx_declaration_77 rfl
theorem a_Tx_declaration_81 : dk_at b_Tx_declaration 81 t_Tx_declaration_81 := dk_go 3 a_Tx_declaration_78 rfl
theorem a_Tx_declaration_84 : dk_at b_Tx_declaration 84 t_Tx_declaration_84 := dk_go 3 a_Tx_declaration_81 rfl
theorem a_Tx_declaration_85 : dk_at b_Tx_declaration 85 t_Tx_declaration_85 := dk_go 1 a_Tx_declaration_84 rfl
theorem a_Tx_declaration_87 : dk_at b_Tx_declaration 87 t_Tx_declaration_87 := dk_go 2 a_Tx_declaration_85 rfl
theorem a_Tx_declaration_90 : dk_at b_Tx_declaration 90 t_Tx_declaration_90 := dk_go 3 a_Tx_declaration_87 rfl
theorem a_Tx_declaration_93 : dk_at b_Tx_declaration 93 t_Tx_declaration_93 := dk_go 3 a_Tx_declaration_90 rfl
theorem a_Tx_declaration_94 : dk_at b_Tx_declaration 94 t_Tx_declaration_94 := dk_go 1 a_Tx_declaration_93 rfl
theorem a_Tx_declaration_97 : dk_at b_Tx_declaration 97 t_Tx_declaration_97 := dk_go 3 a_Tx_declaration_94 rfl
theorem a_Tx_declaration_98 : dk_at b_Tx_declaration 98 t_Tx_declaration_98 := dk_go 1 a_Tx_declaration_97 rfl
theorem a_Tx_declaration_99 : dk_at b_Tx_declaration 99 t_Tx_declaration_99 := dk_go 1 a_Tx_declaration_98 rfl
theorem a_Tx_declaration_100 : dk_at b_Tx_declaration 100 t_Tx_declaration_100 := dk_go 1 a_Tx_declaration_99 rfl
theorem a_Tx_declaration_103 : dk_at b_Tx_declaration 103 t_Tx_declaration_103 := dk_go 3 a_Tx_declaration_100 rfl
theorem a_Tx_declaration_105 : dk_at b_Tx_declaration 105 t_Tx_declaration_105 := dk_go 2 a_Tx_declaration_103 rfl
theorem a_Tx_declaration_106 : dk_at b_Tx_declaration 106 t_Tx_declaration_106 := dk_go 1 a_Tx_declaration_105 rfl
theorem a_Tx_declaration_107 : dk_at b_Tx_declaration 107 t_Tx_declaration_107 := dk_go 1 a_Tx_declaration_106 rfl
theorem a_Tx_declaration_110 : dk_at b_Tx_declaration 110 t_Tx_declaration_110 := dk_go 3 a_Tx_declaration_107 rfl
theorem a_Tx_declaration_113 : dk_at b_Tx_declaration 113 t_Tx_declaration_113 := dk_go 3 a_Tx_declaration_110 rfl
theorem a_Tx_declaration_116 : dk_at b_Tx_declaration 116 t_Tx_declaration_116 := dk_go 3 a_Tx_declaration_113 rfl
theorem a_Tx_declaration_117 : dk_at b_Tx_declaration 117 t_Tx_declaration_117 := dk_go 1 a_Tx_declaration_116 rfl
theorem a_Tx_declaration_118 : dk_at b_Tx_declaration 118 t_Tx_declaration_118 := dk_go 1 a_Tx_declaration_117 rfl
theorem a_Tx_declaration_119 : dk_at b_Tx_declaration 119 t_Tx_declaration_119 := dk_go 1 a_Tx_declaration_118 rfl
theorem a_Tx_declaration_121 : dk_at b_Tx_declaration 121 t_Tx_declaration_121 := dk_go 2 a_Tx_declaration_119 rfl
theorem a_Tx_declaration_122 : dk_at b_Tx_declaration 122 t_Tx_declaration_122 := dk_go 1 a_Tx_declaration_121 rfl
theorem a_Tx_declaration_123 : dk_at b_Tx_declaration 123 t_Tx_declaration_123 := dk_go 1 a_Tx_declaration_122 rfl
theorem a_Tx_declaration_124 : dk_at b_Tx_declaration 124 t_Tx_declaration_124 := dk_go 1 a_Tx_declaration_123 rfl
theorem a_Tx_declaration_125 : dk_at b_Tx_declaration 125 t_Tx_declaration_125 := dk_go 1 a_Tx_declaration_124 rfl
theorem a_Tx_declaration_127 : dk_at b_Tx_declaration 127 t_Tx_declaration_127 := dk_go 2 a_Tx_declaration_125 rfl
theorem a_Tx_declaration_130 : dk_at b_Tx_declaration 130 t_Tx_declaration_130 := dk_go 3 a_Tx_declaration_127 rfl
theorem a_Tx_declaration_132 : dk_at b_Tx_declaration 132 t_Tx_declaration_132 := dk_go 2 a_Tx_declaration_130 rfl
theorem a_Tx_declaration_134 : dk_at b_Tx_declaration 134 t_Tx_declaration_134 := dk_go 2 a_Tx_declaration_132 rfl
theorem a_Tx_declaration_137 : dk_at b_Tx_declaration 137 t_Tx_declaration_137 := dk_go 3 a_Tx_declaration_134 rfl
theorem a_Tx_declaration_138 : dk_at b_Tx_declaration 138 t_Tx_declaration_138 := dk_go 1 a_Tx_declaration_137 rfl
theorem a_Tx_declaration_139 : dk_at b_Tx_declaration 139 t_Tx_declaration_139 := dk_go 1 a_Tx_declaration_138 rfl
theorem a_Tx_declaration_140 : dk_at b_Tx_declaration 140 t_Tx_declaration_140 := dk_go 1 a_Tx_declaration_139 rfl
theorem a_Tx_declaration_143 : dk_at b_Tx_declaration 143 t_Tx_declaration_143 := dk_go 3 a_Tx_declaration_140 rfl
theorem a_Tx_declaration_145 : dk_at b_Tx_declaration 145 t_Tx_declaration_145 := dk_go 2 a_Tx_declaration_143 rfl
theorem a_Tx_declaration_146 : dk_at b_Tx_declaration 146 t_Tx_declaration_146 := dk_go 1 a_Tx_declaration_145 rfl
theorem a_Tx_declaration_147 : dk_at b_Tx_declaration 147 t_Tx_declaration_147 := dk_go 1 a_Tx_declaration_146 rfl
theorem a_Tx_declaration_150 : dk_at b_Tx_declaration 150 t_Tx_declaration_150 := dk_go 3 a_Tx_declaration_147 rfl
theorem a_Tx_declaration_151 : dk_at b_Tx_declaration 151 t_Tx_declaration_151 := dk_go 1 a_Tx_declaration_150 rfl
theorem a_Tx_declaration_152 : dk_at b_Tx_declaration 152 t_Tx_declaration_152 := dk_go 1 a_Tx_declaration_151 rfl
theorem a_Tx_declaration_153 : dk_at b_Tx_declaration 153 t_Tx_declaration_153 := dk_go 1 a_Tx_declaration_152 rfl
theorem a_Tx_declaration_154 : dk_at b_Tx_declaration 154 t_Tx_declaration_154 := dk_go 1 a_Tx_declaration_153 rfl
theorem a_Tx_declaration_156 : dk_at b_Tx_declaration 156 t_Tx_declaration_156 := dk_go 2 a_Tx_declaration_154 rfl
theorem a_Tx_declaration_157 : dk_at b_Tx_declaration 157 t_Tx_declaration_157 := dk_go 1 a_Tx_declaration_156 rfl
theorem a_Tx_declaration_158 : dk_at b_Tx_declaration 158 t_Tx_declaration_158 := dk_go 1 a_Tx_declaration_157 rfl
theorem a_Tx_declaration_161 : dk_at b_Tx_declaration 161 t_Tx_declaration_161 := dk_go 3 a_Tx_declaration_158 rfl
theorem a_Tx_declaration_162 : dk_at b_Tx_declaration 162 t_Tx_declaration_162 := dk_go 1 a_Tx_declaration_161 rfl
theorem a_Tx_declaration_165 : dk_at b_Tx_declaration 165 t_Tx_declaration_165 := dk_go 3 a_Tx_declaration_162 rfl
theorem a_Tx_declaration_166 : dk_at b_Tx_declaration 166 t_Tx_declaration_166 := dk_go 1 a_Tx_declaration_165 rfl
theorem a_Tx_declaration_169 : dk_at b_Tx_declaration 169 t_Tx_declaration_169 := dk_go 3 a_Tx_declaration_166 rfl
theorem a_Tx_declaration_170 : dk_at b_Tx_declaration 170 t_Tx_declaration_170 := dk_go 1 a_Tx_declaration_169 rfl
theorem a_Tx_declaration_172 : dk_at b_Tx_declaration 172 t_Tx_declaration_172 := dk_go 2 a_Tx_declaration_170 rfl
theorem a_Tx_declaration_173 : dk_at b_Tx_declaration 173 t_Tx_declaration_173 := dk_go 1 a_Tx_declaration_172 rfl
theorem a_Tx_declaration_174 : dk_at b_Tx_declaration 174 t_Tx_declaration_174 := dk_go 1 a_Tx_declaration_173 rfl
theorem a_Tx_declaration_175 : dk_at b_Tx_declaration 175 t_Tx_declaration_175 := dk_go 1 a_Tx_declaration_174 rfl
theorem a_Tx_declaration_178 : dk_at b_Tx_declaration 178 t_Tx_declaration_178 := dk_go 3 a_Tx_declaration_175 rfl
theorem a_Tx_declaration_179 : dk_at b_Tx_declaration 179 t_Tx_declaration_179 := dk_go 1 a_Tx_declaration_178 rfl
theorem a_Tx_declaration_180 : dk_at b_Tx_declaration 180 t_Tx_declaration_180 := dk_go 1 a_Tx_declaration_179 rfl
theorem a_Tx_declaration_183 : dk_at b_Tx_declaration 183 t_Tx_declaration_183 := dk_go 3 a_Tx_declaration_180 rfl
theorem a_Tx_declaration_184 : dk_at b_Tx_declaration 184 t_Tx_declaration_184 := dk_go 1 a_Tx_declaration_183 rfl
theorem d_Tx_declaration_0 : decode b_Tx_declaration 0 = .ok (.aload_n 0, 1) := dk_0 a_Tx_declaration_0 (dko_42 _)
theorem d_Tx_declaration_1 : decode b_Tx_declaration 1 = .ok (.getfield 146, 3) := dk_U2 a_Tx_declaration_1 (dko_180 _) rfl
theorem d_Tx_declaration_4 : decode b_Tx_declaration 4 = .ok (.sipush 1000, 3) := dk_S2 a_Tx_declaration_4 (dko_17 _) (by decide +kernel)
theorem d_Tx_declaration_7 : decode b_Tx_declaration 7 = .ok (.isub, 1) := dk_0 a_Tx_declaration_7 (dko_100 _)
theorem d_Tx_declaration_8 : decode b_Tx_declaration 8 = .ok (.istore_n 1, 1) := dk_0 a_Tx_declaration_8 (dko_60 _)
theorem d_Tx_declaration_9 : decode b_Tx_declaration 9 = .ok (.aload_n 0, 1) := dk_0 a_Tx_declaration_9 (dko_42 _)
theorem d_Tx_declaration_10 : decode b_Tx_declaration 10 = .ok (.getfield 143, 3) := dk_U2 a_Tx_declaration_10 (dko_180 _) rfl
theorem d_Tx_declaration_13 : decode b_Tx_declaration 13 = .ok (.istore_n 2, 1) := dk_0 a_Tx_declaration_13 (dko_61 _)
theorem d_Tx_declaration_14 : decode b_Tx_declaration 14 = .ok (.aload_n 0, 1) := dk_0 a_Tx_declaration_14 (dko_42 _)
theorem d_Tx_declaration_15 : decode b_Tx_declaration 15 = .ok (.invokevirtual 182, 3) := dk_U2 a_Tx_declaration_15 (dko_182 _) rfl
theorem d_Tx_declaration_18 : decode b_Tx_declaration 18 = .ok (.ifCond .ne 5, 3) := dk_S2 a_Tx_declaration_18 (dko_154 _) (by decide +kernel)
theorem d_Tx_declaration_21 : decode b_Tx_declaration 21 = .ok (.iconst 0, 1) := dk_0 a_Tx_declaration_21 (dko_3 _)
theorem d_Tx_declaration_22 : decode b_Tx_declaration 22 = .ok (.ireturn, 1) := dk_0 a_Tx_declaration_22 (dko_172 _)
theorem d_Tx_declaration_23 : decode b_Tx_declaration 23 = .ok (.aload_n 0, 1) := dk_0 a_Tx_declaration_23 (dko_42 _)
theorem d_Tx_declaration_24 : decode b_Tx_declaration 24 = .ok (.iload_n 1, 1) := dk_0 a_Tx_declaration_24 (dko_27 _)
theorem d_Tx_declaration_25 : decode b_Tx_declaration 25 = .ok (.invokevirtual 278, 3) := dk_U2 a_Tx_declaration_25 (dko_182 _) rfl
theorem d_Tx_declaration_28 : decode b_Tx_declaration 28 = .ok (.istore_n 3, 1) := dk_0 a_Tx_declaration_28 (dko_62 _)
theorem d_Tx_declaration_29 : decode b_Tx_declaration 29 = .ok (.iload_n 3, 1) := dk_0 a_Tx_declaration_29 (dko_29 _)
theorem d_Tx_declaration_30 : decode b_Tx_declaration 30 = .ok (.ifCond .lt 10, 3) := dk_S2 a_Tx_declaration_30 (dko_155 _) (by decide +kernel)
theorem d_Tx_declaration_33 : decode b_Tx_declaration 33 = .ok (.aload_n 0, 1) := dk_0 a_Tx_declaration_33 (dko_42 _)
theorem d_Tx_declaration_34 : decode b_Tx_declaration 34 = .ok (.invokevirtual 182, 3) := dk_U2 a_Tx_declaration_34 (dko_182 _) rfl
theorem d_Tx_declaration_37 : decode b_Tx_declaration 37 = .ok (.ifCond .ne 5, 3) := dk_S2 a_Tx_declaration_37 (dko_154 _) (by decide +kernel)
theorem d_Tx_declaration_40 : decode b_Tx_declaration 40 = .ok (.iconst 0, 1) := dk_0 a_Tx_declaration_40 (dko_3 _)
theorem d_Tx_declaration_41 : decode b_Tx_declaration 41 = .ok (.ireturn, 1) := dk_0 a_Tx_declaration_41 (dko_172 _)
theorem d_Tx_declaration_42 : decode b_Tx_declaration 42 = .ok (.iload_n 1, 1) := dk_0 a_Tx_declaration_42 (dko_27 _)
theorem d_Tx_declaration_43 : decode b_Tx_declaration 43 = .ok (.bipush 24, 2) := dk_S1 a_Tx_declaration_43 (dko_16 _) (by decide +kernel)
theorem d_Tx_declaration_45 : decode b_Tx_declaration 45 = .ok (.if_icmp .eq 54, 3) := dk_S2 a_Tx_declaration_45 (dko_159 _) (by decide +kernel)
theorem d_Tx_declaration_48 : decode b_Tx_declaration 48 = .ok (.aload_n 0, 1) := dk_0 a_Tx_declaration_48 (dko_42 _)
theorem d_Tx_declaration_49 : decode b_Tx_declaration 49 = .ok (.invokevirtual 243, 3) := dk_U2 a_Tx_declaration_49 (dko_182 _) rfl
theorem d_Tx_declaration_52 : decode b_Tx_declaration 52 = .ok (.istore 4, 2) := dk_U1 a_Tx_declaration_52 (dko_54 _) rfl
theorem d_Tx_declaration_54 : decode b_Tx_declaration 54 = .ok (.aload_n 0, 1) := dk_0 a_Tx_declaration_54 (dko_42 _)
theorem d_Tx_declaration_55 : decode b_Tx_declaration 55 = .ok (.getfield 50, 3) := dk_U2 a_Tx_declaration_55 (dko_180 _) rfl
theorem d_Tx_declaration_58 : decode b_Tx_declaration 58 = .ok (.bipush 40, 2) := dk_S1 a_Tx_declaration_58 (dko_16 _) (by decide +kernel)
theorem d_Tx_declaration_60 : decode b_Tx_declaration 60 = .ok (.iconst 1, 1) := dk_0 a_Tx_declaration_60 (dko_4 _)
theorem d_Tx_declaration_61 : decode b_Tx_declaration 61 = .ok (.aload_n 0, 1) := dk_0 a_Tx_declaration_61 (dko_42 _)
theorem d_Tx_declaration_62 : decode b_Tx_declaration 62 = .ok (.getfield 186, 3) := dk_U2 a_Tx_declaration_62 (dko_180 _) rfl
theorem d_Tx_declaration_65 : decode b_Tx_declaration 65 = .ok (.isub, 1) := dk_0 a_Tx_declaration_65 (dko_100 _)
theorem d_Tx_declaration_66 : decode b_Tx_declaration 66 = .ok (.imul, 1) := dk_0 a_Tx_declaration_66 (dko_104 _)
theorem d_Tx_declaration_67 : decode b_Tx_declaration 67 = .ok (.iload_n 3, 1) := dk_0 a_Tx_declaration_67 (dko_29 _)
theorem d_Tx_declaration_68 : decode b_Tx_declaration 68 = .ok (.iadd, 1) := dk_0 a_Tx_declaration_68 (dko_96 _)
theorem d_Tx_declaration_69 : decode b_Tx_declaration 69 = .ok (.iload 4, 2) := dk_U1 a_Tx_declaration_69 (dko_21 _) rfl
theorem d_Tx_declaration_71 : decode b_Tx_declaration 71 = .ok (.iastore, 1) := dk_0 a_Tx_declaration_71 (dko_79 _)
theorem d_Tx_declaration_72 : decode b_Tx_declaration 72 = .ok (.iload 4, 2) := dk_U1 a_Tx_declaration_72 (dko_21 _) rfl
theorem d_Tx_declaration_74 : decode b_Tx_declaration 74 = .ok (.ifCond .eq 10, 3) := dk_S2 a_Tx_declaration_74 (dko_153 _) (by decide +kernel)
theorem d_Tx_declaration_77 : decode b_Tx_declaration 77 = .ok (.aload_n 0, 1) := dk_0 a_Tx_declaration_77 (dko_42 _)
theorem d_Tx_declaration_78 : decode b_Tx_declaration 78 = .ok (.invokevirtual 182, 3) := dk_U2 a_Tx_declaration_78 (dko_182 _) rfl
theorem d_Tx_declaration_81 : decode b_Tx_declaration 81 = .ok (.ifCond .eq 16, 3) := dk_S2 a_Tx_declaration_81 (dko_153 _) (by decide +kernel)
theorem d_Tx_declaration_84 : decode b_Tx_declaration 84 = .ok (.aload_n 0, 1) := dk_0 a_Tx_declaration_84 (dko_42 _)
theorem d_Tx_declaration_85 : decode b_Tx_declaration 85 = .ok (.bipush 59, 2) := dk_S1 a_Tx_declaration_85 (dko_16 _) (by decide +kernel)
theorem d_Tx_declaration_87 : decode b_Tx_declaration 87 = .ok (.invokevirtual 234, 3) := dk_U2 a_Tx_declaration_87 (dko_182 _) rfl
theorem d_Tx_declaration_90 : decode b_Tx_declaration 90 = .ok (.ifCond .eq 7, 3) := dk_S2 a_Tx_declaration_90 (dko_153 _) (by decide +kernel)
theorem d_Tx_declaration_93 : decode b_Tx_declaration 93 = .ok (.iconst 1, 1) := dk_0 a_Tx_declaration_93 (dko_4 _)
theorem d_Tx_declaration_94 : decode b_Tx_declaration 94 = .ok (.goto 4, 3) := dk_S2 a_Tx_declaration_94 (dko_167 _) (by decide +kernel)
theorem d_Tx_declaration_97 : decode b_Tx_declaration 97 = .ok (.iconst 0, 1) := dk_0 a_Tx_declaration_97 (dko_3 _)
theorem d_Tx_declaration_98 : decode b_Tx_declaration 98 = .ok (.ireturn, 1) := dk_0 a_Tx_declaration_98 (dko_172 _)
theorem d_Tx_declaration_99 : decode b_Tx_declaration 99 = .ok (.aload_n 0, 1) := dk_0 a_Tx_declaration_99 (dko_42 _)
theorem d_Tx_declaration_100 : decode b_Tx_declaration 100 = .ok (.getfield 201, 3) := dk_U2 a_Tx_declaration_100 (dko_180 _) rfl
theorem d_Tx_declaration_103 : decode b_Tx_declaration 103 = .ok (.istore 4, 2) := dk_U1 a_Tx_declaration_103 (dko_54 _) rfl
theorem d_Tx_declaration_105 : decode b_Tx_declaration 105 = .ok (.aload_n 0, 1) := dk_0 a_Tx_declaration_105 (dko_42 _)
theorem d_Tx_declaration_106 : decode b_Tx_declaration 106 = .ok (.aload_n 0, 1) := dk_0 a_Tx_declaration_106 (dko_42 _)
theorem d_Tx_declaration_107 : decode b_Tx_declaration 107 = .ok (.invokevirtual 270, 3) := dk_U2 a_Tx_declaration_107 (dko_182 _) rfl
theorem d_Tx_declaration_110 : decode b_Tx_declaration 110 = .ok (.invokevirtual 267, 3) := dk_U2 a_Tx_declaration_110 (dko_182 _) rfl
theorem d_Tx_declaration_113 : decode b_Tx_declaration 113 = .ok (.ifCond .ne 5, 3) := dk_S2 a_Tx_declaration_113 (dko_154 _) (by decide +kernel)
theorem d_Tx_declaration_116 : decode b_Tx_declaration 116 = .ok (.iconst 0, 1) := dk_0 a_Tx_declaration_116 (dko_3 _)
theorem d_Tx_declaration_117 : decode b_Tx_declaration 117 = .ok (.ireturn, 1) := dk_0 a_Tx_declaration_117 (dko_172 _)
theorem d_Tx_declaration_118 : decode b_Tx_declaration 118 = .ok (.aload_n 0, 1) := dk_0 a_Tx_declaration_118 (dko_42 _)
theorem d_Tx_declaration_119 : decode b_Tx_declaration 119 = .ok (.bipush 24, 2) := dk_S1 a_Tx_declaration_119 (dko_16 _) (by decide +kernel)
theorem d_Tx_declaration_121 : decode b_Tx_declaration 121 = .ok (.iload_n 3, 1) := dk_0 a_Tx_declaration_121 (dko_29 _)
theorem d_Tx_declaration_122 : decode b_Tx_declaration 122 = .ok (.i2l, 1) := dk_0 a_Tx_declaration_122 (dko_133 _)
theorem d_Tx_declaration_123 : decode b_Tx_declaration 123 = .ok (.iload_n 2, 1) := dk_0 a_Tx_declaration_123 (dko_28 _)
theorem d_Tx_declaration_124 : decode b_Tx_declaration 124 = .ok (.iconst (-1), 1) := dk_0 a_Tx_declaration_124 (dko_2 _)
theorem d_Tx_declaration_125 : decode b_Tx_declaration 125 = .ok (.iload 4, 2) := dk_U1 a_Tx_declaration_125 (dko_21 _) rfl
theorem d_Tx_declaration_127 : decode b_Tx_declaration 127 = .ok (.invokevirtual 208, 3) := dk_U2 a_Tx_declaration_127 (dko_182 _) rfl
theorem d_Tx_declaration_130 : decode b_Tx_declaration 130 = .ok (.istore 5, 2) := dk_U1 a_Tx_declaration_130 (dko_54 _) rfl
theorem d_Tx_declaration_132 : decode b_Tx_declaration 132 = .ok (.iload 5, 2) := dk_U1 a_Tx_declaration_132 (dko_21 _) rfl
theorem d_Tx_declaration_134 : decode b_Tx_declaration 134 = .ok (.ifCond .ge 5, 3) := dk_S2 a_Tx_declaration_134 (dko_156 _) (by decide +kernel)
theorem d_Tx_declaration_137 : decode b_Tx_declaration 137 = .ok (.iconst 0, 1) := dk_0 a_Tx_declaration_137 (dko_3 _)
theorem d_Tx_declaration_138 : decode b_Tx_declaration 138 = .ok (.ireturn, 1) := dk_0 a_Tx_declaration_138 (dko_172 _)
theorem d_Tx_declaration_139 : decode b_Tx_declaration 139 = .ok (.aload_n 0, 1) := dk_0 a_Tx_declaration_139 (dko_42 _)
theorem d_Tx_declaration_140 : decode b_Tx_declaration 140 = .ok (.getfield 53, 3) := dk_U2 a_Tx_declaration_140 (dko_180 _) rfl
theorem d_Tx_declaration_143 : decode b_Tx_declaration 143 = .ok (.bipush 40, 2) := dk_S1 a_Tx_declaration_143 (dko_16 _) (by decide +kernel)
theorem d_Tx_declaration_145 : decode b_Tx_declaration 145 = .ok (.iconst 1, 1) := dk_0 a_Tx_declaration_145 (dko_4 _)
theorem d_Tx_declaration_146 : decode b_Tx_declaration 146 = .ok (.aload_n 0, 1) := dk_0 a_Tx_declaration_146 (dko_42 _)
theorem d_Tx_declaration_147 : decode b_Tx_declaration 147 = .ok (.getfield 186, 3) := dk_U2 a_Tx_declaration_147 (dko_180 _) rfl
theorem d_Tx_declaration_150 : decode b_Tx_declaration 150 = .ok (.isub, 1) := dk_0 a_Tx_declaration_150 (dko_100 _)
theorem d_Tx_declaration_151 : decode b_Tx_declaration 151 = .ok (.imul, 1) := dk_0 a_Tx_declaration_151 (dko_104 _)
theorem d_Tx_declaration_152 : decode b_Tx_declaration 152 = .ok (.iload_n 3, 1) := dk_0 a_Tx_declaration_152 (dko_29 _)
theorem d_Tx_declaration_153 : decode b_Tx_declaration 153 = .ok (.iadd, 1) := dk_0 a_Tx_declaration_153 (dko_96 _)
theorem d_Tx_declaration_154 : decode b_Tx_declaration 154 = .ok (.iload 5, 2) := dk_U1 a_Tx_declaration_154 (dko_21 _) rfl
theorem d_Tx_declaration_156 : decode b_Tx_declaration 156 = .ok (.iastore, 1) := dk_0 a_Tx_declaration_156 (dko_79 _)
theorem d_Tx_declaration_157 : decode b_Tx_declaration 157 = .ok (.aload_n 0, 1) := dk_0 a_Tx_declaration_157 (dko_42 _)
theorem d_Tx_declaration_158 : decode b_Tx_declaration 158 = .ok (.getfield 38, 3) := dk_U2 a_Tx_declaration_158 (dko_180 _) rfl
theorem d_Tx_declaration_161 : decode b_Tx_declaration 161 = .ok (.aload_n 0, 1) := dk_0 a_Tx_declaration_161 (dko_42 _)
theorem d_Tx_declaration_162 : decode b_Tx_declaration 162 = .ok (.invokevirtual 195, 3) := dk_U2 a_Tx_declaration_162 (dko_182 _) rfl
theorem d_Tx_declaration_165 : decode b_Tx_declaration 165 = .ok (.aload_n 0, 1) := dk_0 a_Tx_declaration_165 (dko_42 _)
theorem d_Tx_declaration_166 : decode b_Tx_declaration 166 = .ok (.getfield 281, 3) := dk_U2 a_Tx_declaration_166 (dko_180 _) rfl
theorem d_Tx_declaration_169 : decode b_Tx_declaration 169 = .ok (.iadd, 1) := dk_0 a_Tx_declaration_169 (dko_96 _)
theorem d_Tx_declaration_170 : decode b_Tx_declaration 170 = .ok (.iload 5, 2) := dk_U1 a_Tx_declaration_170 (dko_21 _) rfl
theorem d_Tx_declaration_172 : decode b_Tx_declaration 172 = .ok (.iastore, 1) := dk_0 a_Tx_declaration_172 (dko_79 _)
theorem d_Tx_declaration_173 : decode b_Tx_declaration 173 = .ok (.aload_n 0, 1) := dk_0 a_Tx_declaration_173 (dko_42 _)
theorem d_Tx_declaration_174 : decode b_Tx_declaration 174 = .ok (.dup, 1) := dk_0 a_Tx_declaration_174 (dko_89 _)
theorem d_Tx_declaration_175 : decode b_Tx_declaration 175 = .ok (.getfield 281, 3) := dk_U2 a_Tx_declaration_175 (dko_180 _) rfl
theorem d_Tx_declaration_178 : decode b_Tx_declaration 178 = .ok (.iconst 1, 1) := dk_0 a_Tx_declaration_178 (dko_4 _)
theorem d_Tx_declaration_179 : decode b_Tx_declaration 179 = .ok (.iadd, 1) := dk_0 a_Tx_declaration_179 (dko_96 _)
theorem d_Tx_declaration_180 : decode b_Tx_declaration 180 = .ok (.putfield 281, 3) := dk_U2 a_Tx_declaration_180 (dko_181 _) rfl
theorem d_Tx_declaration_183 : decode b_Tx_declaration 183 = .ok (.iconst 1, 1) := dk_0 a_Tx_declaration_183 (dko_4 _)
theorem d_Tx_declaration_184 : decode b_Tx_declaration 184 = .ok (.ireturn, 1) := dk_0 a_Tx_declaration_184 (dko_172 _)
set_option maxHeartbeats 4000000 in
set_option maxRecDepth 100000 in
theorem ok_Tx_declaration (pc : Nat) : OpS mt mi_Tx_declaration pc (cs_Tx_declaration pc) := (os_n (os_n (os_n (os_n (os_n (os_n (os_l (so_aload_n d_Tx_declaration_0 rfl)) (os_n (os_l (so_get (C := R_Tx) (T := F_Tx) (N := 39) (j := 4) in_Tx rfl (by decide) mw_1583 d_Tx_declaration_1)) (os_l (so_sipush d_Tx_declaration_4 (by decide))))) (os_n (os_l (so_isub d_Tx_declaration_7)) (os_n (os_l (so_istore_n d_Tx_declaration_8 rfl (by decide))) (os_l (so_aload_n d_Tx_declaration_9 rfl))))) (os_n (os_n (os_l (so_get (C := R_Tx) (T := F_Tx) (N := 39) (j := 7) in_Tx rfl (by decide) mw_1586 d_Tx_declaration_10)) (os_n (os_l (so_istore_n d_Tx_declaration_13 rfl (by decide))) (os_l (so_aload_n d_Tx_declaration_14 rfl)))) (os_n (os_n (os_l (so_callV (iv := mi_Tx_go) rfl rfl rfl mw_2182 mw_2184 sl_111 mw_19 mw_2185 ⟨by decide +kernel, by decide +kernel, by decide +kernel⟩ (by decide) d_Tx_declaration_15)) (os_l (so_ifne d_Tx_declaration_18 (by decide)))) (os_n (os_l (so_iconst d_Tx_declaration_21 (by decide))) (os_l (so_zreturn rfl d_Tx_declaration_22)))))) (os_n (os_n (os_n (os_l (so_aload_n d_Tx_declaration_23 rfl)) (os_n (os_l (so_iload_n d_Tx_declaration_24 rfl)) (os_l (so_callV (iv := mi_Tx_tell) rfl rfl rfl mw_2247 mw_2249 sl_118 mw_19 mw_2250 ⟨by decide +kernel, by decide +kernel, by decide +kernel⟩ (by decide) d_Tx_declaration_25)))) (os_n (os_l (so_istore_n d_Tx_declaration_28 rfl (by decide))) (os_n (os_l (so_iload_n d_Tx_declaration_29 rfl)) (os_l (so_iflt d_Tx_declaration_30 (by decide)))))) (os_n (os_n (os_l (so_aload_n d_Tx_declaration_33 rfl)) (os_n (os_l (so_callV (iv := mi_Tx_go) rfl rfl rfl mw_2182 mw_2184 sl_111 mw_19 mw_2185 ⟨by decide +kernel, by decide +kernel, by decide +kernel⟩ (by decide) d_Tx_declaration_34)) (os_l (so_ifne d_Tx_declaration_37 (by decide))))) (os_n (os_n (os_l (so_iconst d_Tx_declaration_40 (by decide))) (os_l (so_zreturn rfl d_Tx_declaration_41))) (os_n (os_l (so_iload_n d_Tx_declaration_42 rfl)) (os_l (so_bipush d_Tx_declaration_43 (by decide)))))))) (os_n (os_n (os_n (os_n (os_l (so_iceq d_Tx_declaration_45 (by decide))) (os_n (os_l (so_aload_n d_Tx_declaration_48 rfl)) (os_l (so_callV (iv := mi_Tx_unitWord) rfl rfl rfl mw_2259 mw_2261 sl_121 mw_19 mw_2262 ⟨by decide +kernel, by decide +kernel, by decide +kernel⟩ (by decide) d_Tx_declaration_49)))) (os_n (os_l (so_istore d_Tx_declaration_52 (by decide))) (os_n (os_l (so_aload_n d_Tx_declaration_54 rfl)) (os_l (so_get (C := R_Tx) (T := F_Tx) (N := 39) (j := 28) in_Tx rfl (by decide) mw_1613 d_Tx_declaration_55))))) (os_n (os_n (os_l (so_bipush d_Tx_declaration_58 (by decide))) (os_n (os_l (so_iconst d_Tx_declaration_60 (by decide))) (os_l (so_aload_n d_Tx_declaration_61 rfl)))) (os_n (os_n (os_l (so_get (C := R_Tx) (T := F_Tx) (N := 39) (j := 12) in_Tx rfl (by decide) mw_1591 d_Tx_declaration_62)) (os_l (so_isub d_Tx_declaration_65))) (os_n (os_l (so_imul d_Tx_declaration_66)) (os_l (so_iload_n d_Tx_declaration_67 rfl)))))) (os_n (os_n (os_n (os_l (so_iadd d_Tx_declaration_68)) (os_n (os_l (so_iload d_Tx_declaration_69)) (os_l (so_iastore d_Tx_declaration_71)))) (os_n (os_n (os_l (so_iload d_Tx_declaration_72)) (os_l (so_ifeq d_Tx_declaration_74 (by decide)))) (os_n (os_l (so_aload_n d_Tx_declaration_77 rfl)) (os_l (so_callV (iv := mi_Tx_go) rfl rfl rfl mw_2182 mw_2184 sl_111 mw_19 mw_2185 ⟨by decide +kernel, by decide +kernel, by decide +kernel⟩ (by decide) d_Tx_declaration_78))))) (os_n (os_n (os_l (so_ifeq d_Tx_declaration_81 (by decide))) (os_n (os_l (so_aload_n d_Tx_declaration_84 rfl)) (os_l (so_bipush d_Tx_declaration_85 (by decide))))) (os_n (os_n (os_l (so_callV (iv := mi_Tx_over) rfl rfl rfl mw_2263 mw_2265 sl_122 mw_19 mw_2266 ⟨by decide +kernel, by decide +kernel, by decide +kernel⟩ (by decide) d_Tx_declaration_87)) (os_l (so_ifeq d_Tx_declaration_90 (by decide)))) (os_n (os_l (so_iconst d_Tx_declaration_93 (by decide))) (os_l (so_goto d_Tx_declaration_94 (by decide))))))))) (os_n (os_n (os_n (os_n (os_n (os_l (so_iconst d_Tx_declaration_97 (by decide))) (os_n (os_l (so_zreturn rfl d_Tx_declaration_98)) (os_l (so_aload_n d_Tx_declaration_99 rfl)))) (os_n (os_l (so_get (C := R_Tx) (T := F_Tx) (N := 39) (j := 35) in_Tx rfl (by decide) mw_1623 d_Tx_declaration_100)) (os_n (os_l (so_istore d_Tx_declaration_103 (by decide))) (os_l (so_aload_n d_Tx_declaration_105 rfl))))) (os_n (os_n (os_l (so_aload_n d_Tx_declaration_106 rfl)) (os_n (os_l (so_callV (iv := mi_Tx_block) rfl rfl rfl mw_2267 mw_2269 sl_123 mw_19 mw_2270 ⟨by decide +kernel, by decide +kernel, by decide +kernel⟩ (by decide) d_Tx_declaration_107)) (os_l (so_callV (iv := mi_Tx_pushed) rfl rfl rfl mw_2326 mw_2328 sl_137 mw_19 mw_2329 ⟨by decide +kernel, by decide +kernel, by decide +kernel⟩ (by decide) d_Tx_declaration_110)))) (os_n (os_n (os_l (so_ifne d_Tx_declaration_113 (by decide))) (os_l (so_iconst d_Tx_declaration_116 (by decide)))) (os_n (os_l (so_zreturn rfl d_Tx_declaration_117)) (os_l (so_aload_n d_Tx_declaration_118 rfl)))))) (os_n (os_n (os_n (os_l (so_bipush d_Tx_declaration_119 (by decide))) (os_n (os_l (so_iload_n d_Tx_declaration_121 rfl)) (os_l (so_i2l d_Tx_declaration_122)))) (os_n (os_n (os_l (so_iload_n d_Tx_declaration_123 rfl)) (os_l (so_iconst d_Tx_declaration_124 (by decide)))) (os_n (os_l (so_iload d_Tx_declaration_125)) (os_l (so_callV (iv := mi_Tx_node0) rfl rfl rfl mw_2302 mw_2304 sl_131 mw_19 mw_2305 ⟨by decide +kernel, by decide +kernel, by decide +kernel⟩ (by decide) d_Tx_declaration_127))))) (os_n (os_n (os_l (so_istore d_Tx_declaration_130 (by decide))) (os_n (os_l (so_iload d_Tx_declaration_132)) (os_l (so_ifge d_Tx_declaration_134 (by decide))))) (os_n (os_n (os_l (so_iconst d_Tx_declaration_137 (by decide))) (os_l (so_zreturn rfl d_Tx_declaration_138))) (os_n (os_l (so_aload_n d_Tx_declaration_139 rfl)) (os_l (so_get (C := R_Tx) (T := F_Tx) (N := 39) (j := 29) in_Tx rfl (by decide) mw_1614 d_Tx_declaration_140))))))) (os_n (os_n (os_n (os_n (os_l (so_bipush d_Tx_declaration_143 (by decide))) (os_n (os_l (so_iconst d_Tx_declaration_145 (by decide))) (os_l (so_aload_n d_Tx_declaration_146 rfl)))) (os_n (os_l (so_get (C := R_Tx) (T := F_Tx) (N := 39) (j := 12) in_Tx rfl (by decide) mw_1591 d_Tx_declaration_147)) (os_n (os_l (so_isub d_Tx_declaration_150)) (os_l (so_imul d_Tx_declaration_151))))) (os_n (os_n (os_l (so_iload_n d_Tx_declaration_152 rfl)) (os_n (os_l (so_iadd d_Tx_declaration_153)) (os_l (so_iload d_Tx_declaration_154)))) (os_n (os_n (os_l (so_iastore d_Tx_declaration_156)) (os_l (so_aload_n d_Tx_declaration_157 rfl))) (os_n (os_l (so_get (C := R_Tx) (T := F_Tx) (N := 39) (j := 22) in_Tx rfl (by decide) mw_1605 d_Tx_declaration_158)) (os_l (so_aload_n d_Tx_declaration_161 rfl)))))) (os_n (os_n (os_n (os_l (so_callV (iv := mi_Tx_base) rfl rfl rfl mw_2306 mw_2308 sl_132 mw_19 mw_2309 ⟨by decide +kernel, by decide +kernel, by decide +kernel⟩ (by decide) d_Tx_declaration_162)) (os_n (os_l (so_aload_n d_Tx_declaration_165 rfl)) (os_l (so_get (C := R_Tx) (T := F_Tx) (N := 39) (j := 23) in_Tx rfl (by decide) mw_1607 d_Tx_declaration_166)))) (os_n (os_n (os_l (so_iadd d_Tx_declaration_169)) (os_l (so_iload d_Tx_declaration_170))) (os_n (os_l (so_iastore d_Tx_declaration_172)) (os_l (so_aload_n d_Tx_declaration_173 rfl))))) (os_n (os_n (os_l (so_dup d_Tx_declaration_174)) (os_n (os_l (so_get (C := R_Tx) (T := F_Tx) (N := 39) (j := 23) in_Tx rfl (by decide) mw_1607 d_Tx_declaration_175)) (os_l (so_iconst d_Tx_declaration_178 (by decide))))) (os_n (os_n (os_l (so_iadd d_Tx_declaration_179)) (os_l (so_putI (C := R_Tx) (T := F_Tx) (N := 39) (j := 23) in_Tx t_Tx_ok n_Tx rfl (by decide) mw_1607 rfl (by decide +kernel) d_Tx_declaration_180))) (os_n (os_l (so_iconst d_Tx_declaration_183 (by decide))) (os_l (so_zreturn rfl d_Tx_declaration_184)))))))))
abbrev t_Tx_program_104 : List UInt8 := 172 :: []
abbrev t_Tx_program_103 : List UInt8 := 27 :: t_Tx_program_104
abbrev t_Tx_program_100 : List UInt8 := 167 :: 255 :: 200 :: t_Tx_program_103
abbrev t_Tx_program_97 : List UInt8 := 181 :: 1 :: 25 :: t_Tx_program_100
abbrev t_Tx_program_96 : List UInt8 := 96 :: t_Tx_program_97
abbrev t_Tx_program_95 : List UInt8 := 4 :: t_Tx_program_96
abbrev t_Tx_program_92 : List UInt8 := 180 :: 1 :: 25 :: t_Tx_program_95
abbrev t_Tx_program_91 : List UInt8 := 89 :: t_Tx_program_92
abbrev t_Tx_program_90 : List UInt8 := 42 :: t_Tx_program_91
abbrev t_Tx_program_89 : List UInt8 := 79 :: t_Tx_program_90
abbrev t_Tx_program_88 : List UInt8 := 28 :: t_Tx_program_89
abbrev t_Tx_program_87 : List UInt8 := 96 :: t_Tx_program_88
abbrev t_Tx_program_84 : List UInt8 := 180 :: 1 :: 25 :: t_Tx_program_87
abbrev t_Tx_program_83 : List UInt8 := 42 :: t_Tx_program_84
abbrev t_Tx_program_80 : List UInt8 := 182 :: 0 :: 195 :: t_Tx_program_83
abbrev t_Tx_program_79 : List UInt8 := 42 :: t_Tx_program_80
abbrev t_Tx_program_76 : List UInt8 := 180 :: 0 :: 38 :: t_Tx_program_79
abbrev t_Tx_program_75 : List UInt8 := 42 :: t_Tx_program_76
abbrev t_Tx_program_72 : List UInt8 := 153 :: 0 :: 28 :: t_Tx_program_75
abbrev t_Tx_program_71 : List UInt8 := 27 :: t_Tx_program_72
abbrev t_Tx_program_70 : List UInt8 := 60 :: t_Tx_program_71
abbrev t_Tx_program_69 : List UInt8 := 3 :: t_Tx_program_70
abbrev t_Tx_program_66 : List UInt8 := 167 :: 0 :: 4 :: t_Tx_program_69
abbrev t_Tx_program_65 : List UInt8 := 4 :: t_Tx_program_66
abbrev t_Tx_program_62 : List UInt8 := 155 :: 0 :: 7 :: t_Tx_program_65
abbrev t_Tx_program_61 : List UInt8 := 28 :: t_Tx_program_62
abbrev t_Tx_program_60 : List UInt8 := 61 :: t_Tx_program_61
abbrev t_Tx_program_57 : List UInt8 := 182 :: 0 :: 255 :: t_Tx_program_60
abbrev t_Tx_program_56 : List UInt8 := 42 :: t_Tx_program_57
abbrev t_Tx_program_53 : List UInt8 := 159 :: 0 :: 50 :: t_Tx_program_56
abbrev t_Tx_program_52 : List UInt8 := 4 :: t_Tx_program_53
abbrev t_Tx_program_49 : List UInt8 := 180 :: 0 :: 146 :: t_Tx_program_52
abbrev t_Tx_program_48 : List UInt8 := 42 :: t_Tx_program_49
abbrev t_Tx_program_45 : List UInt8 := 153 :: 0 :: 58 :: t_Tx_program_48
abbrev t_Tx_program_44 : List UInt8 := 27 :: t_Tx_program_45
abbrev t_Tx_program_41 : List UInt8 := 167 :: 255 :: 220 :: t_Tx_program_44
abbrev t_Tx_program_40 : List UInt8 := 60 :: t_Tx_program_41
abbrev t_Tx_program_37 : List UInt8 := 182 :: 1 :: 28 :: t_Tx_program_40
abbrev t_Tx_program_36 : List UInt8 := 42 :: t_Tx_program_37
abbrev t_Tx_program_33 : List UInt8 := 153 :: 0 :: 11 :: t_Tx_program_36
abbrev t_Tx_program_30 : List UInt8 := 182 :: 0 :: 237 :: t_Tx_program_33
abbrev t_Tx_program_28 : List UInt8 := 16 :: 24 :: t_Tx_program_30
abbrev t_Tx_program_27 : List UInt8 := 42 :: t_Tx_program_28
abbrev t_Tx_program_24 : List UInt8 := 154 :: 0 :: 12 :: t_Tx_program_27
abbrev t_Tx_program_21 : List UInt8 := 182 :: 0 :: 237 :: t_Tx_program_24
abbrev t_Tx_program_19 : List UInt8 := 16 :: 31 :: t_Tx_program_21
abbrev t_Tx_program_18 : List UInt8 := 42 :: t_Tx_program_19
abbrev t_Tx_program_15 : List UInt8 := 154 :: 0 :: 21 :: t_Tx_program_18
abbrev t_Tx_program_12 : List UInt8 := 182 :: 0 :: 237 :: t_Tx_program_15
abbrev t_Tx_program_10 : List UInt8 := 16 :: 30 :: t_Tx_program_12
abbrev t_Tx_program_9 : List UInt8 := 42 :: t_Tx_program_10
abbrev t_Tx_program_6 : List UInt8 := 153 :: 0 :: 38 :: t_Tx_program_9
abbrev t_Tx_program_5 : List UInt8 := 27 :: t_Tx_program_6
abbrev t_Tx_program_4 : List UInt8 := 60 :: t_Tx_program_5
abbrev t_Tx_program_1 : List UInt8 := 182 :: 0 :: 182 :: t_Tx_program_4
abbrev t_Tx_program_0 : List UInt8 := 42 :: t_Tx_program_1
theorem a_Tx_program_0 : dk_at b_Tx_program 0 t_Tx_program_0 := dk_start (by decide +kernel)
theorem a_Tx_program_1 : dk_at b_Tx_program 1 t_Tx_program_1 := dk_go 1 a_Tx_program_0 rfl
theorem a_Tx_program_4 : dk_at b_Tx_program 4 t_Tx_program_4 := dk_go 3 a_Tx_program_1 rfl
theorem a_Tx_program_5 : dk_at b_Tx_program 5 t_Tx_program_5 := dk_go 1 a_Tx_program_4 rfl
theorem a_Tx_program_6 : dk_at b_Tx_program 6 t_Tx_program_6 := dk_go 1 a_Tx_program_5 rfl
theorem a_Tx_program_9 : dk_at b_Tx_program 9 t_Tx_program_9 := dk_go 3 a_Tx_program_6 rfl
theorem a_Tx_program_10 : dk_at b_Tx_program 10 t_Tx_program_10 := dk_go 1 a_Tx_program_9 rfl
theorem a_Tx_program_12 : dk_at b_Tx_program 12 t_Tx_program_12 := dk_go 2 a_Tx_program_10 rfl
theorem a_Tx_program_15 : dk_at b_Tx_program 15 t_Tx_program_15 := dk_go 3 a_Tx_program_12 rfl
theorem a_Tx_program_18 : dk_at b_Tx_program 18 t_Tx_program_18 := dk_go 3 a_Tx_program_15 rfl
theorem a_Tx_program_19 : dk_at b_Tx_program 19 t_Tx_program_19 := dk_go 1 a_Tx_program_18 rfl
theorem a_Tx_program_21 : dk_at b_Tx_program 21 t_Tx_program_21 := dk_go 2 a_Tx_program_19 rfl
theorem a_Tx_program_24 : dk_at b_Tx_program 24 t_Tx_program_24 := dk_go 3 a_Tx_program_21 rfl
theorem a_Tx_program_27 : dk_at b_Tx_program 27 t_Tx_program_27 := dk_go 3 a_Tx_program_24 rfl
theorem a_Tx_program_28 : dk_at b_Tx_program 28 t_Tx_program_28 := dk_go 1 a_Tx_program_27 rfl
theorem a_Tx_program_30 : dk_at b_Tx_program 30 t_Tx_program_30 := dk_go 2 a_Tx_program_28 rfl
theorem a_Tx_program_33 : dk_at b_Tx_program 33 t_Tx_program_33 := dk_go 3 a_Tx_program_30 rfl
theorem a_Tx_program_36 : dk_at b_Tx_program 36 t_Tx_program_36 := dk_go 3 a_Tx_program_33 rfl
theorem a_Tx_program_37 : dk_at b_Tx_program 37 t_Tx_program_37 := dk_go 1 a_Tx_program_36 rfl
theorem a_Tx_program_40 : dk_at b_Tx_program 40 t_Tx_program_40 := dk_go 3 a_Tx_program_37 rfl
theorem a_Tx_program_41 : dk_at b_Tx_program 41 t_Tx_program_41 := dk_go 1 a_Tx_program_40 rfl
theorem a_Tx_program_44 : dk_at b_Tx_program 44 t_Tx_program_44 := dk_go 3 a_Tx_program_41 rfl
theorem a_Tx_program_45 : dk_at b_Tx_program 45 t_Tx_program_45 := dk_go 1 a_Tx_program_44 rfl
theorem a_Tx_program_48 : dk_at b_Tx_program 48 t_Tx_program_48 := dk_go 3 a_Tx_program_45 rfl
theorem a_Tx_program_49 : dk_at b_Tx_program 49 t_Tx_program_49 := dk_go 1 a_Tx_program_48 rfl
theorem a_Tx_program_52 : dk_at b_Tx_program 52 t_Tx_program_52 := dk_go 3 a_Tx_program_49 rfl
theorem a_Tx_program_53 : dk_at b_Tx_program 53 t_Tx_program_53 := dk_go 1 a_Tx_program_52 rfl
theorem a_Tx_program_56 : dk_at b_Tx_program 56 t_Tx_program_56 := dk_go 3 a_Tx_program_53 rfl
theorem a_Tx_program_57 : dk_at b_Tx_program 57 t_Tx_program_57 := dk_go 1 a_Tx_program_56 rfl
theorem a_Tx_program_60 : dk_at b_Tx_program 60 t_Tx_program_60 := dk_go 3 a_Tx_program_57 rfl
theorem a_Tx_program_61 : dk_at b_Tx_program 61 t_Tx_program_61 := dk_go 1 a_Tx_program_60 rfl
theorem a_Tx_program_62 : dk_at b_Tx_program 62 t_Tx_program_62 := dk_go 1 a_Tx_program_61 rfl
theorem a_Tx_program_65 : dk_at b_Tx_program 65 t_Tx_program_65 := dk_go 3 a_Tx_program_62 rfl
theorem a_Tx_program_66 : dk_at b_Tx_program 66 t_Tx_program_66 := dk_go 1 a_Tx_program_65 rfl
theorem a_Tx_program_69 : dk_at b_Tx_program 69 t_Tx_program_69 := dk_go 3 a_Tx_program_66 rfl
theorem a_Tx_program_70 : dk_at b_Tx_program 70 t_Tx_program_70 := dk_go 1 a_Tx_program_69 rfl
theorem a_Tx_program_71 : dk_at b_Tx_program 71 t_Tx_program_71 := dk_go 1 a_Tx_program_70 rfl
theorem a_Tx_program_72 : dk_at b_Tx_program 72 t_Tx_program_72 := dk_go 1 a_Tx_program_71 rfl
theorem a_Tx_program_75 : dk_at b_Tx_program 75 t_Tx_program_75 := dk_go 3 a_Tx_program_72 rfl
theorem a_Tx_program_76 : dk_at b_Tx_program 76 t_Tx_program_76 := dk_go 1 a_Tx_program_75 rfl
theorem a_Tx_program_79 : dk_at b_Tx_program 79 t_Tx_program_79 := dk_go 3 a_Tx_program_76 rfl
theorem a_Tx_program_80 : dk_at b_Tx_program 80 t_Tx_program_80 := dk_go 1 a_Tx_program_79 rfl
theorem a_Tx_program_83 : dk_at b_Tx_program 83 t_Tx_program_83 := dk_go 3 a_Tx_program_80 rfl
theorem a_Tx_program_84 : dk_at b_Tx_program 84 t_Tx_program_84 := dk_go 1 a_Tx_program_83 rfl
theorem a_Tx_program_87 : dk_at b_Tx_program 87 t_Tx_program_87 := dk_go 3 a_Tx_program_84 rfl
theorem a_Tx_program_88 : dk_at b_Tx_program 88 t_Tx_program_88 := dk_go 1 a_Tx_program_87 rfl
theorem a_Tx_program_89 : dk_at b_Tx_program 89 t_Tx_program_89 := dk_go 1 a_Tx_program_88 rfl
theorem a_Tx_program_90 : dk_at b_Tx_program 90 t_Tx_program_90 := dk_go 1 a_Tx_program_89 rfl
theorem a_Tx_program_91 : dk_at b_Tx_program 91 t_Tx_program_91 := dk_go 1 a_Tx_program_90 rfl
theorem a_Tx_program_92 : dk_at b_Tx_program 92 t_Tx_program_92 := dk_go 1 a_Tx_program_91 rfl
theorem a_Tx_program_95 : dk_at b_Tx_program 95 t_Tx_program_95 := dk_go 3 a_Tx_program_92 rfl
theorem a_Tx_program_96 : dk_at b_Tx_program 96 t_Tx_program_96 := dk_go 1 a_Tx_program_95 rfl
theorem a_Tx_program_97 : dk_at b_Tx_program 97 t_Tx_program_97 := dk_go 1 a_Tx_program_96 rfl
theorem a_Tx_program_100 : dk_at b_Tx_program 100 t_Tx_program_100 := dk_go 3 a_Tx_program_97 rfl
theorem a_Tx_program_103 : dk_at b_Tx_program 103 t_Tx_program_103 := dk_go 3 a_Tx_program_100 rfl
theorem a_Tx_program_104 : dk_at b_Tx_program 104 t_Tx_program_104 := dk_go 1 a_Tx_program_103 rfl
theorem d_Tx_program_0 : decode b_Tx_program 0 = .ok (.aload_n 0, 1) := dk_0 a_Tx_program_0 (dko_42 _)
theorem d_Tx_program_1 : decode b_Tx_program 1 = .ok (.invokevirtual 182, 3) := dk_U2 a_Tx_program_1 (dko_182 _) rfl
theorem d_Tx_program_4 : decode b_Tx_program 4 = .ok (.istore_n 1, 1) := dk_0 a_Tx_program_4 (dko_60 _)
theorem d_Tx_program_5 : decode b_Tx_program 5 = .ok (.iload_n 1, 1) := dk_0 a_Tx_program_5 (dko_27 _)
theorem d_Tx_program_6 : decode b_Tx_program 6 = .ok (.ifCond .eq 38, 3) := dk_S2 a_Tx_program_6 (dko_153 _) (by decide +kernel)
theorem d_Tx_program_9 : decode b_Tx_program 9 = .ok (.aload_n 0, 1) := dk_0 a_Tx_program_9 (dko_42 _)
theorem d_Tx_program_10 : decode b_Tx_program 10 = .ok (.bipush 30, 2) := dk_S1 a_Tx_program_10 (dko_16 _) (by decide +kernel)
theorem d_Tx_program_12 : decode b_Tx_program 12 = .ok (.invokevirtual 237, 3) := dk_U2 a_Tx_program_12 (dko_182 _) rfl
theorem d_Tx_program_15 : decode b_Tx_program 15 = .ok (.ifCond .ne 21, 3) := dk_S2 a_Tx_program_15 (dko_154 _) (by decide +kernel)
theorem d_Tx_program_18 : decode b_Tx_program 18 = .ok (.aload_n 0, 1) := dk_0 a_Tx_program_18 (dko_42 _)
theorem d_Tx_program_19 : decode b_Tx_program 19 = .ok (.bipush 31, 2) := dk_S1 a_Tx_program_19 (dko_16 _) (by decide +kernel)
theorem d_Tx_program_21 : decode b_Tx_program 21 = .ok (.invokevirtual 237, 3) := dk_U2 a_Tx_program_21 (dko_182 _) rfl
theorem d_Tx_program_24 : decode b_Tx_program 24 = .ok (.ifCond .ne 12, 3) := dk_S2 a_Tx_program_24 (dko_154 _) (by decide +kernel)
theorem d_Tx_program_27 : decode b_Tx_program 27 = .ok (.aload_n 0, 1) := dk_0 a_Tx_program_27 (dko_42 _)
theorem d_Tx_program_28 : decode b_Tx_program 28 = .ok (.bipush 24, 2) := dk_S1 a_Tx_program_28 (dko_16 _) (by decide +kernel)
theorem d_Tx_program_30 : decode b_Tx_program 30 = .ok (.invokevirtual 237, 3) := dk_U2 a_Tx_program_30 (dko_182 _) rfl
theorem d_Tx_program_33 : decode b_Tx_program 33 = .ok (.ifCond .eq 11, 3) := dk_S2 a_Tx_program_33 (dko_153 _) (by decide +kernel)
theorem d_Tx_program_36 : decode b_Tx_program 36 = .ok (.aload_n 0, 1) := dk_0 a_Tx_program_36 (dko_42 _)
theorem d_Tx_program_37 : decode b_Tx_program 37 = .ok (.invokevirtual 284, 3) := dk_U2 a_Tx_program_37 (dko_182 _) rfl
theorem d_Tx_program_40 : decode b_Tx_program 40 = .ok (.istore_n 1, 1) := dk_0 a_Tx_program_40 (dko_60 _)
theorem d_Tx_program_41 : decode b_Tx_program 41 = .ok (.goto (-36), 3) := dk_S2 a_Tx_program_41 (dko_167 _) (by decide +kernel)
theorem d_Tx_program_44 : decode b_Tx_program 44 = .ok (.iload_n 1, 1) := dk_0 a_Tx_program_44 (dko_27 _)
theorem d_Tx_program_45 : decode b_Tx_program 45 = .ok (.ifCond .eq 58, 3) := dk_S2 a_Tx_program_45 (dko_153 _) (by decide +kernel)
theorem d_Tx_program_48 : decode b_Tx_program 48 = .ok (.aload_n 0, 1) := dk_0 a_Tx_program_48 (dko_42 _)
theorem d_Tx_program_49 : decode b_Tx_program 49 = .ok (.getfield 146, 3) := dk_U2 a_Tx_program_49 (dko_180 _) rfl
theorem d_Tx_program_52 : decode b_Tx_program 52 = .ok (.iconst 1, 1) := dk_0 a_Tx_program_52 (dko_4 _)
theorem d_Tx_program_53 : decode b_Tx_program 53 = .ok (.if_icmp .eq 50, 3) := dk_S2 a_Tx_program_53 (dko_159 _) (by decide +kernel)
theorem d_Tx_program_56 : decode b_Tx_program 56 = .ok (.aload_n 0, 1) := dk_0 a_Tx_program_56 (dko_42 _)
theorem d_Tx_program_57 : decode b_Tx_program 57 = .ok (.invokevirtual 255, 3) := dk_U2 a_Tx_program_57 (dko_182 _) rfl
theorem d_Tx_program_60 : decode b_Tx_program 60 = .ok (.istore_n 2, 1) := dk_0 a_Tx_program_60 (dko_61 _)
theorem d_Tx_program_61 : decode b_Tx_program 61 = .ok (.iload_n 2, 1) := dk_0 a_Tx_program_61 (dko_28 _)
theorem d_Tx_program_62 : decode b_Tx_program 62 = .ok (.ifCond .lt 7, 3) := dk_S2 a_Tx_program_62 (dko_155 _) (by decide +kernel)
theorem d_Tx_program_65 : decode b_Tx_program 65 = .ok (.iconst 1, 1) := dk_0 a_Tx_program_65 (dko_4 _)
theorem d_Tx_program_66 : decode b_Tx_program 66 = .ok (.goto 4, 3) := dk_S2 a_Tx_program_66 (dko_167 _) (by decide +kernel)
theorem d_Tx_program_69 : decode b_Tx_program 69 = .ok (.iconst 0, 1) := dk_0 a_Tx_program_69 (dko_3 _)
theorem d_Tx_program_70 : decode b_Tx_program 70 = .ok (.istore_n 1, 1) := dk_0 a_Tx_program_70 (dko_60 _)
theorem d_Tx_program_71 : decode b_Tx_program 71 = .ok (.iload_n 1, 1) := dk_0 a_Tx_program_71 (dko_27 _)
theorem d_Tx_program_72 : decode b_Tx_program 72 = .ok (.ifCond .eq 28, 3) := dk_S2 a_Tx_program_72 (dko_153 _) (by decide +kernel)
theorem d_Tx_program_75 : decode b_Tx_program 75 = .ok (.aload_n 0, 1) := dk_0 a_Tx_program_75 (dko_42 _)
theorem d_Tx_program_76 : decode b_Tx_program 76 = .ok (.getfield 38, 3) := dk_U2 a_Tx_program_76 (dko_180 _) rfl
theorem d_Tx_program_79 : decode b_Tx_program 79 = .ok (.aload_n 0, 1) := dk_0 a_Tx_program_79 (dko_42 _)
theorem d_Tx_program_80 : decode b_Tx_program 80 = .ok (.invokevirtual 195, 3) := dk_U2 a_Tx_program_80 (dko_182 _) rfl
theorem d_Tx_program_83 : decode b_Tx_program 83 = .ok (.aload_n 0, 1) := dk_0 a_Tx_program_83 (dko_42 _)
theorem d_Tx_program_84 : decode b_Tx_program 84 = .ok (.getfield 281, 3) := dk_U2 a_Tx_program_84 (dko_180 _) rfl
theorem d_Tx_program_87 : decode b_Tx_program 87 = .ok (.iadd, 1) := dk_0 a_Tx_program_87 (dko_96 _)
theorem d_Tx_program_88 : decode b_Tx_program 88 = .ok (.iload_n 2, 1) := dk_0 a_Tx_program_88 (dko_28 _)
theorem d_Tx_program_89 : decode b_Tx_program 89 = .ok (.iastore, 1) := dk_0 a_Tx_program_89 (dko_79 _)
theorem d_Tx_program_90 : decode b_Tx_program 90 = .ok (.aload_n 0, 1) := dk_0 a_Tx_program_90 (dko_42 _)
theorem d_Tx_program_91 : decode b_Tx_program 91 = .ok (.dup, 1) := dk_0 a_Tx_program_91 (dko_89 _)
theorem d_Tx_program_92 : decode b_Tx_program 92 = .ok (.getfield 281, 3) := dk_U2 a_Tx_program_92 (dko_180 _) rfl
theorem d_Tx_program_95 : decode b_Tx_program 95 = .ok (.iconst 1, 1) := dk_0 a_Tx_program_95 (dko_4 _)
theorem d_Tx_program_96 : decode b_Tx_program 96 = .ok (.iadd, 1) := dk_0 a_Tx_program_96 (dko_96 _)
theorem d_Tx_program_97 : decode b_Tx_program 97 = .ok (.putfield 281, 3) := dk_U2 a_Tx_program_97 (dko_181 _) rfl
theorem d_Tx_program_100 : decode b_Tx_program 100 = .ok (.goto (-56), 3) := dk_S2 a_Tx_program_100 (dko_167 _) (by decide +kernel)
theorem d_Tx_program_103 : decode b_Tx_program 103 = .ok (.iload_n 1, 1) := dk_0 a_Tx_program_103 (dko_27 _)
theorem d_Tx_program_104 : decode b_Tx_program 104 = .ok (.ireturn, 1) := dk_0 a_Tx_program_104 (dko_172 _)
set_option maxHeartbeats 4000000 in
set_option maxRecDepth 100000 in
theorem ok_Tx_program (pc : Nat) : OpS mt mi_Tx_program pc (cs_Tx_program pc) := (os_n (os_n (os_n (os_n (os_n (os_l (so_aload_n d_Tx_program_0 rfl)) (os_n (os_l (so_callV (iv := mi_Tx_go) rfl rfl rfl mw_2182 mw_2184 sl_111 mw_19 mw_2185 ⟨by decide +kernel, by decide +kernel, by decide +kernel⟩ (by decide) d_Tx_program_1)) (os_l (so_istore_n d_Tx_program_4 rfl (by decide))))) (os_n (os_n (os_l (so_iload_n d_Tx_program_5 rfl)) (os_l (so_ifeq d_Tx_program_6 (by decide)))) (os_n (os_l (so_aload_n d_Tx_program_9 rfl)) (os_l (so_bipush d_Tx_program_10 (by decide)))))) (os_n (os_n (os_l (so_callV (iv := mi_Tx_isWord) rfl rfl rfl mw_2239 mw_2241 sl_116 mw_19 mw_2242 ⟨by decide +kernel, by decide +kernel, by decide +kernel⟩ (by decide) d_Tx_program_12)) (os_n (os_l (so_ifne d_Tx_program_15 (by decide))) (os_l (so_aload_n d_Tx_program_18 rfl)))) (os_n (os_n (os_l (so_bipush d_Tx_program_19 (by decide))) (os_l (so_callV (iv := mi_Tx_isWord) rfl rfl rfl mw_2239 mw_2241 sl_116 mw_19 mw_2242 ⟨by decide +kernel, by decide +kernel, by decide +kernel⟩ (by decide) d_Tx_program_21))) (os_n (os_l (so_ifne d_Tx_program_24 (by decide))) (os_l (so_aload_n d_Tx_program_27 rfl)))))) (os_n (os_n (os_n (os_l (so_bipush d_Tx_program_28 (by decide))) (os_n (os_l (so_callV (iv := mi_Tx_isWord) rfl rfl rfl mw_2239 mw_2241 sl_116 mw_19 mw_2242 ⟨by decide +kernel, by decide +kernel, by decide +kernel⟩ (by decide) d_Tx_program_30)) (os_l (so_ifeq d_Tx_program_33 (by decide))))) (os_n (os_n (os_l (so_aload_n d_Tx_program_36 rfl)) (os_l (so_callV (iv := mi_Tx_declaration) rfl rfl rfl mw_2243 mw_2245 sl_117 mw_19 mw_2246 ⟨by decide +kernel, by decide +kernel, by decide +kernel⟩ (by decide) d_Tx_program_37))) (os_n (os_l (so_istore_n d_Tx_program_40 rfl (by decide))) (os_l (so_goto d_Tx_program_41 (by decide)))))) (os_n (os_n (os_l (so_iload_n d_Tx_program_44 rfl)) (os_n (os_l (so_ifeq d_Tx_program_45 (by decide))) (os_l (so_aload_n d_Tx_program_48 rfl)))) (os_n (os_n (os_l (so_get (C := R_Tx) (T := F_Tx) (N := 39) (j := 4) in_Tx rfl (by decide) mw_1583 d_Tx_program_49)) (os_l (so_iconst d_Tx_program_52 (by decide)))) (os_n (os_l (so_iceq d_Tx_program_53 (by decide))) (os_l (so_aload_n d_Tx_program_56 rfl))))))) (os_n (os_n (os_n (os_n (os_l (so_callV (iv := mi_Tx_statement) rfl rfl rfl mw_2271 mw_2273 sl_124 mw_19 mw_2274 ⟨by decide +kernel, by decide +kernel, by decide +kernel⟩ (by decide) d_Tx_program_57)) (os_n (os_l (so_istore_n d_Tx_program_60 rfl (by decide))) (os_l (so_iload_n d_Tx_program_61 rfl)))) (os_n (os_n (os_l (so_iflt d_Tx_program_62 (by decide))) (os_l (so_iconst d_Tx_program_65 (by decide)))) (os_n (os_l (so_goto d_Tx_program_66 (by decide))) (os_l (so_iconst d_Tx_program_69 (by decide)))))) (os_n (os_n (os_l (so_istore_n d_Tx_program_70 rfl (by decide))) (os_n (os_l (so_iload_n d_Tx_program_71 rfl)) (os_l (so_ifeq d_Tx_program_72 (by decide))))) (os_n (os_n (os_l (so_aload_n d_Tx_program_75 rfl)) (os_l (so_get (C := R_Tx) (T := F_Tx) (N := 39) (j := 22) in_Tx rfl (by decide) mw_1605 d_Tx_program_76))) (os_n (os_l (so_aload_n d_Tx_program_79 rfl)) (os_l (so_callV (iv := mi_Tx_base) rfl rfl rfl mw_2306 mw_2308 sl_132 mw_19 mw_2309 ⟨by decide +kernel, by decide +kernel, by decide +kernel⟩ (by decide) d_Tx_program_80)))))) (os_n (os_n (os_n (os_l (so_aload_n d_Tx_program_83 rfl)) (os_n (os_l (so_get (C := R_Tx) (T := F_Tx) (N := 39) (j := 23) in_Tx rfl (by decide) mw_1607 d_Tx_program_84)) (os_l (so_iadd d_Tx_program_87)))) (os_n (os_n (os_l (so_iload_n d_Tx_program_88 rfl)) (os_l (so_iastore d_Tx_program_89))) (os_n (os_l (so_aload_n d_Tx_program_90 rfl)) (os_l (so_dup d_Tx_program_91))))) (os_n (os_n (os_l (so_get (C := R_Tx) (T := F_Tx) (N := 39) (j := 23) in_Tx rfl (by decide) mw_1607 d_Tx_program_92)) (os_n (os_l (so_iconst d_Tx_program_95 (by decide))) (os_l (so_iadd d_Tx_program_96)))) (os_n (os_n (os_l (so_putI (C := R_Tx) (T := F_Tx) (N := 39) (j := 23) in_Tx t_Tx_ok n_Tx rfl (by decide) mw_1607 rfl (by decide +kernel) d_Tx_program_97)) (os_l (so_goto d_Tx_program_100 (by decide)))) (os_n (os_l (so_iload_n d_Tx_program_103 rfl)) (os_l (so_zreturn rfl d_Tx_program_104))))))))
abbrev t_Tx_isSmall_434 : List UInt8 := 172 :: []
abbrev t_Tx_isSmall_433 : List UInt8 := 3 :: t_Tx_isSmall_434
abbrev t_Tx_isSmall_430 : List UInt8 := 167 :: 0 :: 4 :: t_Tx_isSmall_433
abbrev t_Tx_isSmall_429 : List UInt8 := 4 :: t_Tx_isSmall_430
abbrev t_Tx_isSmall_426 : List UInt8 := 163 :: 0 :: 7 :: t_Tx_isSmall_429
abbrev t_Tx_isSmall_423 : List UInt8 := 17 :: 1 :: 244 :: t_Tx_isSmall_426
abbrev t_Tx_isSmall_422 : List UInt8 := 27 :: t_Tx_isSmall_423
abbrev t_Tx_isSmall_419 : List UInt8 := 181 :: 0 :: 159 :: t_Tx_isSmall_422
abbrev t_Tx_isSmall_416 : List UInt8 := 180 :: 0 :: 159 :: t_Tx_isSmall_419
abbrev t_Tx_isSmall_415 : List UInt8 := 42 :: t_Tx_isSmall_416
abbrev t_Tx_isSmall_412 : List UInt8 := 167 :: 0 :: 7 :: t_Tx_isSmall_415
abbrev t_Tx_isSmall_409 : List UInt8 := 180 :: 0 :: 65 :: t_Tx_isSmall_412
abbrev t_Tx_isSmall_408 : List UInt8 := 42 :: t_Tx_isSmall_409
abbrev t_Tx_isSmall_405 : List UInt8 := 164 :: 0 :: 10 :: t_Tx_isSmall_408
abbrev t_Tx_isSmall_402 : List UInt8 := 17 :: 1 :: 244 :: t_Tx_isSmall_405
abbrev t_Tx_isSmall_401 : List UInt8 := 27 :: t_Tx_isSmall_402
abbrev t_Tx_isSmall_400 : List UInt8 := 42 :: t_Tx_isSmall_401
abbrev t_Tx_isSmall_397 : List UInt8 := 167 :: 255 :: 180 :: t_Tx_isSmall_400
abbrev t_Tx_isSmall_394 : List UInt8 := 132 :: 2 :: 1 :: t_Tx_isSmall_397
abbrev t_Tx_isSmall_393 : List UInt8 := 60 :: t_Tx_isSmall_394
abbrev t_Tx_isSmall_392 : List UInt8 := 96 :: t_Tx_isSmall_393
abbrev t_Tx_isSmall_391 : List UInt8 := 46 :: t_Tx_isSmall_392
abbrev t_Tx_isSmall_390 : List UInt8 := 29 :: t_Tx_isSmall_391
abbrev t_Tx_isSmall_387 : List UInt8 := 180 :: 0 :: 59 :: t_Tx_isSmall_390
abbrev t_Tx_isSmall_386 : List UInt8 := 42 :: t_Tx_isSmall_387
abbrev t_Tx_isSmall_383 : List UInt8 := 167 :: 0 :: 9 :: t_Tx_isSmall_386
abbrev t_Tx_isSmall_380 : List UInt8 := 17 :: 1 :: 245 :: t_Tx_isSmall_383
abbrev t_Tx_isSmall_377 : List UInt8 := 164 :: 0 :: 9 :: t_Tx_isSmall_380
abbrev t_Tx_isSmall_375 : List UInt8 := 16 :: 40 :: t_Tx_isSmall_377
abbrev t_Tx_isSmall_374 : List UInt8 := 46 :: t_Tx_isSmall_375
abbrev t_Tx_isSmall_373 : List UInt8 := 29 :: t_Tx_isSmall_374
abbrev t_Tx_isSmall_370 : List UInt8 := 180 :: 0 :: 62 :: t_Tx_isSmall_373
abbrev t_Tx_isSmall_369 : List UInt8 := 42 :: t_Tx_isSmall_370
abbrev t_Tx_isSmall_366 : List UInt8 := 167 :: 0 :: 26 :: t_Tx_isSmall_369
abbrev t_Tx_isSmall_365 : List UInt8 := 3 :: t_Tx_isSmall_366
abbrev t_Tx_isSmall_362 : List UInt8 := 160 :: 0 :: 7 :: t_Tx_isSmall_365
abbrev t_Tx_isSmall_360 : List UInt8 := 16 :: 24 :: t_Tx_isSmall_362
abbrev t_Tx_isSmall_359 : List UInt8 := 46 :: t_Tx_isSmall_360
abbrev t_Tx_isSmall_358 : List UInt8 := 96 :: t_Tx_isSmall_359
abbrev t_Tx_isSmall_357 : List UInt8 := 29 :: t_Tx_isSmall_358
abbrev t_Tx_isSmall_354 : List UInt8 := 182 :: 0 :: 195 :: t_Tx_isSmall_357
abbrev t_Tx_isSmall_353 : List UInt8 := 42 :: t_Tx_isSmall_354
abbrev t_Tx_isSmall_350 : List UInt8 := 180 :: 0 :: 15 :: t_Tx_isSmall_353
abbrev t_Tx_isSmall_349 : List UInt8 := 42 :: t_Tx_isSmall_350
abbrev t_Tx_isSmall_348 : List UInt8 := 27 :: t_Tx_isSmall_349
abbrev t_Tx_isSmall_347 : List UInt8 := 62 :: t_Tx_isSmall_348
abbrev t_Tx_isSmall_346 : List UInt8 := 46 :: t_Tx_isSmall_347
abbrev t_Tx_isSmall_345 : List UInt8 := 96 :: t_Tx_isSmall_346
abbrev t_Tx_isSmall_344 : List UInt8 := 28 :: t_Tx_isSmall_345
abbrev t_Tx_isSmall_341 : List UInt8 := 182 :: 0 :: 195 :: t_Tx_isSmall_344
abbrev t_Tx_isSmall_340 : List UInt8 := 42 :: t_Tx_isSmall_341
abbrev t_Tx_isSmall_337 : List UInt8 := 180 :: 0 :: 38 :: t_Tx_isSmall_340
abbrev t_Tx_isSmall_336 : List UInt8 := 42 :: t_Tx_isSmall_337
abbrev t_Tx_isSmall_333 : List UInt8 := 163 :: 0 :: 67 :: t_Tx_isSmall_336
abbrev t_Tx_isSmall_330 : List UInt8 := 17 :: 1 :: 244 :: t_Tx_isSmall_333
abbrev t_Tx_isSmall_329 : List UInt8 := 27 :: t_Tx_isSmall_330
abbrev t_Tx_isSmall_326 : List UInt8 := 162 :: 0 :: 74 :: t_Tx_isSmall_329
abbrev t_Tx_isSmall_323 : List UInt8 := 180 :: 1 :: 25 :: t_Tx_isSmall_326
abbrev t_Tx_isSmall_322 : List UInt8 := 42 :: t_Tx_isSmall_323
abbrev t_Tx_isSmall_321 : List UInt8 := 28 :: t_Tx_isSmall_322
abbrev t_Tx_isSmall_320 : List UInt8 := 61 :: t_Tx_isSmall_321
abbrev t_Tx_isSmall_319 : List UInt8 := 3 :: t_Tx_isSmall_320
abbrev t_Tx_isSmall_316 : List UInt8 := 167 :: 254 :: 200 :: t_Tx_isSmall_319
abbrev t_Tx_isSmall_313 : List UInt8 := 132 :: 2 :: 1 :: t_Tx_isSmall_316
abbrev t_Tx_isSmall_312 : List UInt8 := 79 :: t_Tx_isSmall_313
abbrev t_Tx_isSmall_311 : List UInt8 := 46 :: t_Tx_isSmall_312
abbrev t_Tx_isSmall_310 : List UInt8 := 28 :: t_Tx_isSmall_311
abbrev t_Tx_isSmall_307 : List UInt8 := 180 :: 0 :: 59 :: t_Tx_isSmall_310
abbrev t_Tx_isSmall_306 : List UInt8 := 42 :: t_Tx_isSmall_307
abbrev t_Tx_isSmall_303 : List UInt8 := 167 :: 0 :: 9 :: t_Tx_isSmall_306
abbrev t_Tx_isSmall_300 : List UInt8 := 17 :: 1 :: 245 :: t_Tx_isSmall_303
abbrev t_Tx_isSmall_297 : List UInt8 := 164 :: 0 :: 9 :: t_Tx_isSmall_300
abbrev t_Tx_isSmall_294 : List UInt8 := 17 :: 1 :: 244 :: t_Tx_isSmall_297
abbrev t_Tx_isSmall_293 : List UInt8 := 46 :: t_Tx_isSmall_294
abbrev t_Tx_isSmall_292 : List UInt8 := 28 :: t_Tx_isSmall_293
abbrev t_Tx_isSmall_289 : List UInt8 := 180 :: 0 :: 59 :: t_Tx_isSmall_292
abbrev t_Tx_isSmall_288 : List UInt8 := 42 :: t_Tx_isSmall_289
abbrev t_Tx_isSmall_287 : List UInt8 := 28 :: t_Tx_isSmall_288
abbrev t_Tx_isSmall_284 : List UInt8 := 180 :: 0 :: 59 :: t_Tx_isSmall_287
abbrev t_Tx_isSmall_283 : List UInt8 := 42 :: t_Tx_isSmall_284
abbrev t_Tx_isSmall_282 : List UInt8 := 79 :: t_Tx_isSmall_283
abbrev t_Tx_isSmall_281 : List UInt8 := 96 :: t_Tx_isSmall_282
abbrev t_Tx_isSmall_280 : List UInt8 := 3 :: t_Tx_isSmall_281
abbrev t_Tx_isSmall_277 : List UInt8 := 167 :: 0 :: 4 :: t_Tx_isSmall_280
abbrev t_Tx_isSmall_276 : List UInt8 := 4 :: t_Tx_isSmall_277
abbrev t_Tx_isSmall_273 : List UInt8 := 160 :: 0 :: 7 :: t_Tx_isSmall_276
abbrev t_Tx_isSmall_271 : List UInt8 := 16 :: 23 :: t_Tx_isSmall_273
abbrev t_Tx_isSmall_270 : List UInt8 := 29 :: t_Tx_isSmall_271
abbrev t_Tx_isSmall_269 : List UInt8 := 46 :: t_Tx_isSmall_270
abbrev t_Tx_isSmall_268 : List UInt8 := 92 :: t_Tx_isSmall_269
abbrev t_Tx_isSmall_267 : List UInt8 := 28 :: t_Tx_isSmall_268
abbrev t_Tx_isSmall_264 : List UInt8 := 180 :: 0 :: 62 :: t_Tx_isSmall_267
abbrev t_Tx_isSmall_263 : List UInt8 := 42 :: t_Tx_isSmall_264
abbrev t_Tx_isSmall_262 : List UInt8 := 79 :: t_Tx_isSmall_263
abbrev t_Tx_isSmall_261 : List UInt8 := 46 :: t_Tx_isSmall_262
abbrev t_Tx_isSmall_260 : List UInt8 := 46 :: t_Tx_isSmall_261
abbrev t_Tx_isSmall_259 : List UInt8 := 96 :: t_Tx_isSmall_260
abbrev t_Tx_isSmall_258 : List UInt8 := 46 :: t_Tx_isSmall_259
abbrev t_Tx_isSmall_257 : List UInt8 := 96 :: t_Tx_isSmall_258
abbrev t_Tx_isSmall_255 : List UInt8 := 21 :: 4 :: t_Tx_isSmall_257
abbrev t_Tx_isSmall_252 : List UInt8 := 182 :: 0 :: 195 :: t_Tx_isSmall_255
abbrev t_Tx_isSmall_251 : List UInt8 := 42 :: t_Tx_isSmall_252
abbrev t_Tx_isSmall_248 : List UInt8 := 180 :: 0 :: 29 :: t_Tx_isSmall_251
abbrev t_Tx_isSmall_247 : List UInt8 := 42 :: t_Tx_isSmall_248
abbrev t_Tx_isSmall_244 : List UInt8 := 182 :: 0 :: 195 :: t_Tx_isSmall_247
abbrev t_Tx_isSmall_243 : List UInt8 := 42 :: t_Tx_isSmall_244
abbrev t_Tx_isSmall_240 : List UInt8 := 180 :: 0 :: 35 :: t_Tx_isSmall_243
abbrev t_Tx_isSmall_239 : List UInt8 := 42 :: t_Tx_isSmall_240
abbrev t_Tx_isSmall_236 : List UInt8 := 180 :: 0 :: 62 :: t_Tx_isSmall_239
abbrev t_Tx_isSmall_235 : List UInt8 := 42 :: t_Tx_isSmall_236
abbrev t_Tx_isSmall_234 : List UInt8 := 28 :: t_Tx_isSmall_235
abbrev t_Tx_isSmall_231 : List UInt8 := 180 :: 0 :: 62 :: t_Tx_isSmall_234
abbrev t_Tx_isSmall_230 : List UInt8 := 42 :: t_Tx_isSmall_231
abbrev t_Tx_isSmall_229 : List UInt8 := 79 :: t_Tx_isSmall_230
abbrev t_Tx_isSmall_228 : List UInt8 := 96 :: t_Tx_isSmall_229
abbrev t_Tx_isSmall_227 : List UInt8 := 46 :: t_Tx_isSmall_228
abbrev t_Tx_isSmall_226 : List UInt8 := 46 :: t_Tx_isSmall_227
abbrev t_Tx_isSmall_225 : List UInt8 := 96 :: t_Tx_isSmall_226
abbrev t_Tx_isSmall_224 : List UInt8 := 46 :: t_Tx_isSmall_225
abbrev t_Tx_isSmall_223 : List UInt8 := 96 :: t_Tx_isSmall_224
abbrev t_Tx_isSmall_221 : List UInt8 := 21 :: 4 :: t_Tx_isSmall_223
abbrev t_Tx_isSmall_218 : List UInt8 := 182 :: 0 :: 195 :: t_Tx_isSmall_221
abbrev t_Tx_isSmall_217 : List UInt8 := 42 :: t_Tx_isSmall_218
abbrev t_Tx_isSmall_214 : List UInt8 := 180 :: 0 :: 29 :: t_Tx_isSmall_217
abbrev t_Tx_isSmall_213 : List UInt8 := 42 :: t_Tx_isSmall_214
abbrev t_Tx_isSmall_210 : List UInt8 := 182 :: 0 :: 195 :: t_Tx_isSmall_213
abbrev t_Tx_isSmall_209 : List UInt8 := 42 :: t_Tx_isSmall_210
abbrev t_Tx_isSmall_206 : List UInt8 := 180 :: 0 :: 35 :: t_Tx_isSmall_209
abbrev t_Tx_isSmall_205 : List UInt8 := 42 :: t_Tx_isSmall_206
abbrev t_Tx_isSmall_202 : List UInt8 := 180 :: 0 :: 59 :: t_Tx_isSmall_205
abbrev t_Tx_isSmall_201 : List UInt8 := 42 :: t_Tx_isSmall_202
abbrev t_Tx_isSmall_200 : List UInt8 := 46 :: t_Tx_isSmall_201
abbrev t_Tx_isSmall_199 : List UInt8 := 92 :: t_Tx_isSmall_200
abbrev t_Tx_isSmall_198 : List UInt8 := 28 :: t_Tx_isSmall_199
abbrev t_Tx_isSmall_195 : List UInt8 := 180 :: 0 :: 59 :: t_Tx_isSmall_198
abbrev t_Tx_isSmall_194 : List UInt8 := 42 :: t_Tx_isSmall_195
abbrev t_Tx_isSmall_192 : List UInt8 := 54 :: 4 :: t_Tx_isSmall_194
abbrev t_Tx_isSmall_191 : List UInt8 := 46 :: t_Tx_isSmall_192
abbrev t_Tx_isSmall_190 : List UInt8 := 96 :: t_Tx_isSmall_191
abbrev t_Tx_isSmall_189 : List UInt8 := 136 :: t_Tx_isSmall_190
abbrev t_Tx_isSmall_188 : List UInt8 := 47 :: t_Tx_isSmall_189
abbrev t_Tx_isSmall_187 : List UInt8 := 96 :: t_Tx_isSmall_188
abbrev t_Tx_isSmall_186 : List UInt8 := 28 :: t_Tx_isSmall_187
abbrev t_Tx_isSmall_183 : List UInt8 := 182 :: 0 :: 195 :: t_Tx_isSmall_186
abbrev t_Tx_isSmall_182 : List UInt8 := 42 :: t_Tx_isSmall_183
abbrev t_Tx_isSmall_179 : List UInt8 := 180 :: 0 :: 19 :: t_Tx_isSmall_182
abbrev t_Tx_isSmall_178 : List UInt8 := 42 :: t_Tx_isSmall_179
abbrev t_Tx_isSmall_177 : List UInt8 := 104 :: t_Tx_isSmall_178
abbrev t_Tx_isSmall_176 : List UInt8 := 100 :: t_Tx_isSmall_177
abbrev t_Tx_isSmall_173 : List UInt8 := 180 :: 0 :: 186 :: t_Tx_isSmall_176
abbrev t_Tx_isSmall_172 : List UInt8 := 42 :: t_Tx_isSmall_173
abbrev t_Tx_isSmall_171 : List UInt8 := 4 :: t_Tx_isSmall_172
abbrev t_Tx_isSmall_169 : List UInt8 := 16 :: 40 :: t_Tx_isSmall_171
abbrev t_Tx_isSmall_166 : List UInt8 := 180 :: 0 :: 53 :: t_Tx_isSmall_169
abbrev t_Tx_isSmall_165 : List UInt8 := 42 :: t_Tx_isSmall_166
abbrev t_Tx_isSmall_162 : List UInt8 := 160 :: 0 :: 101 :: t_Tx_isSmall_165
abbrev t_Tx_isSmall_160 : List UInt8 := 16 :: 19 :: t_Tx_isSmall_162
abbrev t_Tx_isSmall_159 : List UInt8 := 29 :: t_Tx_isSmall_160
abbrev t_Tx_isSmall_156 : List UInt8 := 167 :: 255 :: 157 :: t_Tx_isSmall_159
abbrev t_Tx_isSmall_153 : List UInt8 := 132 :: 4 :: 1 :: t_Tx_isSmall_156
abbrev t_Tx_isSmall_152 : List UInt8 := 79 :: t_Tx_isSmall_153
abbrev t_Tx_isSmall_151 : List UInt8 := 46 :: t_Tx_isSmall_152
abbrev t_Tx_isSmall_150 : List UInt8 := 28 :: t_Tx_isSmall_151
abbrev t_Tx_isSmall_147 : List UInt8 := 180 :: 0 :: 62 :: t_Tx_isSmall_150
abbrev t_Tx_isSmall_146 : List UInt8 := 42 :: t_Tx_isSmall_147
abbrev t_Tx_isSmall_143 : List UInt8 := 167 :: 0 :: 9 :: t_Tx_isSmall_146
abbrev t_Tx_isSmall_142 : List UInt8 := 46 :: t_Tx_isSmall_143
abbrev t_Tx_isSmall_140 : List UInt8 := 21 :: 5 :: t_Tx_isSmall_142
abbrev t_Tx_isSmall_137 : List UInt8 := 180 :: 0 :: 62 :: t_Tx_isSmall_140
abbrev t_Tx_isSmall_136 : List UInt8 := 42 :: t_Tx_isSmall_137
abbrev t_Tx_isSmall_133 : List UInt8 := 164 :: 0 :: 13 :: t_Tx_isSmall_136
abbrev t_Tx_isSmall_132 : List UInt8 := 46 :: t_Tx_isSmall_133
abbrev t_Tx_isSmall_131 : List UInt8 := 28 :: t_Tx_isSmall_132
abbrev t_Tx_isSmall_128 : List UInt8 := 180 :: 0 :: 62 :: t_Tx_isSmall_131
abbrev t_Tx_isSmall_127 : List UInt8 := 42 :: t_Tx_isSmall_128
abbrev t_Tx_isSmall_126 : List UInt8 := 46 :: t_Tx_isSmall_127
abbrev t_Tx_isSmall_124 : List UInt8 := 21 :: 5 :: t_Tx_isSmall_126
abbrev t_Tx_isSmall_121 : List UInt8 := 180 :: 0 :: 62 :: t_Tx_isSmall_124
abbrev t_Tx_isSmall_120 : List UInt8 := 42 :: t_Tx_isSmall_121
abbrev t_Tx_isSmall_119 : List UInt8 := 28 :: t_Tx_isSmall_120
abbrev t_Tx_isSmall_116 : List UInt8 := 180 :: 0 :: 62 :: t_Tx_isSmall_119
abbrev t_Tx_isSmall_115 : List UInt8 := 42 :: t_Tx_isSmall_116
abbrev t_Tx_isSmall_114 : List UInt8 := 79 :: t_Tx_isSmall_115
abbrev t_Tx_isSmall_113 : List UInt8 := 96 :: t_Tx_isSmall_114
abbrev t_Tx_isSmall_112 : List UInt8 := 46 :: t_Tx_isSmall_113
abbrev t_Tx_isSmall_110 : List UInt8 := 21 :: 5 :: t_Tx_isSmall_112
abbrev t_Tx_isSmall_107 : List UInt8 := 180 :: 0 :: 59 :: t_Tx_isSmall_110
abbrev t_Tx_isSmall_106 : List UInt8 := 42 :: t_Tx_isSmall_107
abbrev t_Tx_isSmall_105 : List UInt8 := 46 :: t_Tx_isSmall_106
abbrev t_Tx_isSmall_104 : List UInt8 := 92 :: t_Tx_isSmall_105
abbrev t_Tx_isSmall_103 : List UInt8 := 28 :: t_Tx_isSmall_104
abbrev t_Tx_isSmall_100 : List UInt8 := 180 :: 0 :: 59 :: t_Tx_isSmall_103
abbrev t_Tx_isSmall_99 : List UInt8 := 42 :: t_Tx_isSmall_100
abbrev t_Tx_isSmall_97 : List UInt8 := 54 :: 5 :: t_Tx_isSmall_99
abbrev t_Tx_isSmall_96 : List UInt8 := 46 :: t_Tx_isSmall_97
abbrev t_Tx_isSmall_95 : List UInt8 := 96 :: t_Tx_isSmall_96
abbrev t_Tx_isSmall_93 : List UInt8 := 21 :: 4 :: t_Tx_isSmall_95
abbrev t_Tx_isSmall_92 : List UInt8 := 96 :: t_Tx_isSmall_93
abbrev t_Tx_isSmall_91 : List UInt8 := 46 :: t_Tx_isSmall_92
abbrev t_Tx_isSmall_90 : List UInt8 := 96 :: t_Tx_isSmall_91
abbrev t_Tx_isSmall_89 : List UInt8 := 28 :: t_Tx_isSmall_90
abbrev t_Tx_isSmall_86 : List UInt8 := 182 :: 0 :: 195 :: t_Tx_isSmall_89
abbrev t_Tx_isSmall_85 : List UInt8 := 42 :: t_Tx_isSmall_86
abbrev t_Tx_isSmall_82 : List UInt8 := 180 :: 0 :: 29 :: t_Tx_isSmall_85
abbrev t_Tx_isSmall_81 : List UInt8 := 42 :: t_Tx_isSmall_82
abbrev t_Tx_isSmall_78 : List UInt8 := 182 :: 0 :: 195 :: t_Tx_isSmall_81
abbrev t_Tx_isSmall_77 : List UInt8 := 42 :: t_Tx_isSmall_78
abbrev t_Tx_isSmall_74 : List UInt8 := 180 :: 0 :: 35 :: t_Tx_isSmall_77
abbrev t_Tx_isSmall_73 : List UInt8 := 42 :: t_Tx_isSmall_74
abbrev t_Tx_isSmall_70 : List UInt8 := 162 :: 0 :: 89 :: t_Tx_isSmall_73
abbrev t_Tx_isSmall_69 : List UInt8 := 46 :: t_Tx_isSmall_70
abbrev t_Tx_isSmall_68 : List UInt8 := 96 :: t_Tx_isSmall_69
abbrev t_Tx_isSmall_67 : List UInt8 := 28 :: t_Tx_isSmall_68
abbrev t_Tx_isSmall_64 : List UInt8 := 182 :: 0 :: 195 :: t_Tx_isSmall_67
abbrev t_Tx_isSmall_63 : List UInt8 := 42 :: t_Tx_isSmall_64
abbrev t_Tx_isSmall_60 : List UInt8 := 180 :: 0 :: 32 :: t_Tx_isSmall_63
abbrev t_Tx_isSmall_59 : List UInt8 := 42 :: t_Tx_isSmall_60
abbrev t_Tx_isSmall_57 : List UInt8 := 21 :: 4 :: t_Tx_isSmall_59
abbrev t_Tx_isSmall_55 : List UInt8 := 54 :: 4 :: t_Tx_isSmall_57
abbrev t_Tx_isSmall_54 : List UInt8 := 3 :: t_Tx_isSmall_55
abbrev t_Tx_isSmall_53 : List UInt8 := 79 :: t_Tx_isSmall_54
abbrev t_Tx_isSmall_52 : List UInt8 := 3 :: t_Tx_isSmall_53
abbrev t_Tx_isSmall_51 : List UInt8 := 28 :: t_Tx_isSmall_52
abbrev t_Tx_isSmall_48 : List UInt8 := 180 :: 0 :: 62 :: t_Tx_isSmall_51
abbrev t_Tx_isSmall_47 : List UInt8 := 42 :: t_Tx_isSmall_48
abbrev t_Tx_isSmall_46 : List UInt8 := 79 :: t_Tx_isSmall_47
abbrev t_Tx_isSmall_45 : List UInt8 := 3 :: t_Tx_isSmall_46
abbrev t_Tx_isSmall_42 : List UInt8 := 167 :: 0 :: 4 :: t_Tx_isSmall_45
abbrev t_Tx_isSmall_41 : List UInt8 := 4 :: t_Tx_isSmall_42
abbrev t_Tx_isSmall_38 : List UInt8 := 163 :: 0 :: 7 :: t_Tx_isSmall_41
abbrev t_Tx_isSmall_36 : List UInt8 := 16 :: 23 :: t_Tx_isSmall_38
abbrev t_Tx_isSmall_35 : List UInt8 := 29 :: t_Tx_isSmall_36
abbrev t_Tx_isSmall_32 : List UInt8 := 161 :: 0 :: 13 :: t_Tx_isSmall_35
abbrev t_Tx_isSmall_30 : List UInt8 := 16 :: 10 :: t_Tx_isSmall_32
abbrev t_Tx_isSmall_29 : List UInt8 := 29 :: t_Tx_isSmall_30
abbrev t_Tx_isSmall_28 : List UInt8 := 28 :: t_Tx_isSmall_29
abbrev t_Tx_isSmall_25 : List UInt8 := 180 :: 0 :: 59 :: t_Tx_isSmall_28
abbrev t_Tx_isSmall_24 : List UInt8 := 42 :: t_Tx_isSmall_25
abbrev t_Tx_isSmall_23 : List UInt8 := 62 :: t_Tx_isSmall_24
abbrev t_Tx_isSmall_22 : List UInt8 := 46 :: t_Tx_isSmall_23
abbrev t_Tx_isSmall_21 : List UInt8 := 96 :: t_Tx_isSmall_22
abbrev t_Tx_isSmall_20 : List UInt8 := 28 :: t_Tx_isSmall_21
abbrev t_Tx_isSmall_17 : List UInt8 := 182 :: 0 :: 195 :: t_Tx_isSmall_20
abbrev t_Tx_isSmall_16 : List UInt8 := 42 :: t_Tx_isSmall_17
abbrev t_Tx_isSmall_13 : List UInt8 := 180 :: 0 :: 15 :: t_Tx_isSmall_16
abbrev t_Tx_isSmall_12 : List UInt8 := 42 :: t_Tx_isSmall_13
abbrev t_Tx_isSmall_9 : List UInt8 := 162 :: 1 :: 54 :: t_Tx_isSmall_12
abbrev t_Tx_isSmall_6 : List UInt8 := 180 :: 0 :: 189 :: t_Tx_isSmall_9
abbrev t_Tx_isSmall_5 : List UInt8 := 42 :: t_Tx_isSmall_6
abbrev t_Tx_isSmall_4 : List UInt8 := 28 :: t_Tx_isSmall_5
abbrev t_Tx_isSmall_3 : List UInt8 := 61 :: t_Tx_isSmall_4
abbrev t_Tx_isSmall_2 : List UInt8 := 3 :: t_Tx_isSmall_3
abbrev t_Tx_isSmall_1 : List UInt8 := 60 :: t_Tx_isSmall_2
abbrev t_Tx_isSmall_0 : List UInt8 := 3 :: t_Tx_isSmall_1
theorem a_Tx_isSmall_0 : dk_at b_Tx_isSmall 0 t_Tx_isSmall_0 := dk_start (by decide +kernel)
theorem a_Tx_isSmall_1 : dk_at b_Tx_isSmall 1 t_Tx_isSmall_1 := dk_go 1 a_Tx_isSmall_0 rfl
theorem a_Tx_isSmall_2 : dk_at b_Tx_isSmall 2 t_Tx_isSmall_2 := dk_go 1 a_Tx_isSmall_1 rfl
theorem a_Tx_isSmall_3 : dk_at b_Tx_isSmall 3 t_Tx_isSmall_3 := dk_go 1 a_Tx_isSmall_2 rfl
theorem a_Tx_isSmall_4 : dk_at b_Tx_isSmall 4 t_Tx_isSmall_4 := dk_go 1 a_Tx_isSmall_3 rfl
theorem a_Tx_isSmall_5 : dk_at b_Tx_isSmall 5 t_Tx_isSmall_5 := dk_go 1 a_Tx_isSmall_4 rfl
theorem a_Tx_isSmall_6 : dk_at b_Tx_isSmall 6 t_Tx_isSmall_6 := dk_go 1 a_Tx_isSmall_5 rfl
theorem a_Tx_isSmall_9 : dk_at b_Tx_isSmall 9 t_Tx_isSmall_9 := dk_go 3 a_Tx_isSmall_6 rfl
theorem a_Tx_isSmall_12 : dk_at b_Tx_isSmall 12 t_Tx_isSmall_12 := dk_go 3 a_Tx_isSmall_9 rfl
theorem a_Tx_isSmall_13 : dk_at b_Tx_isSmall 13 t_Tx_isSmall_13 := dk_go 1 a_Tx_isSmall_12 rfl
theorem a_Tx_isSmall_16 : dk_at b_Tx_isSmall 16 t_Tx_isSmall_16 := dk_go 3 a_Tx_isSmall_13 rfl
theorem a_Tx_isSmall_17 : dk_at b_Tx_isSmall 17 t_Tx_isSmall_17 := dk_go 1 a_Tx_isSmall_16 rfl
theorem a_Tx_isSmall_20 : dk_at b_Tx_isSmall 20 t_Tx_isSmall_20 := dk_go 3 a_Tx_isSmall_17 rfl
theorem a_Tx_isSmall_21 : dk_at b_Tx_isSmall 21 t_Tx_isSmall_21 := dk_go 1 a_Tx_isSmall_20 rfl
theorem a_Tx_isSmall_22 : dk_at b_Tx_isSmall 22 t_Tx_isSmall_22 := dk_go 1 a_Tx_isSmall_21 rfl
theorem a_Tx_isSmall_23 : dk_at b_Tx_isSmall 23 t_Tx_isSmall_23 := dk_go 1 a_Tx_isSmall_22 rfl
theorem a_Tx_isSmall_24 : dk_at b_Tx_isSmall 24 t_Tx_isSmall_24 := dk_go 1 a_Tx_isSmall_23 rfl
theorem a_Tx_isSmall_25 : dk_at b_Tx_isSmall 25 t_Tx_isSmall_25 := dk_go 1 a_Tx_isSmall_24 rfl
theorem a_Tx_isSmall_28 : dk_at b_Tx_isSmall 28 t_Tx_isSmall_28 := dk_go 3 a_Tx_isSmall_25 rfl
theorem a_Tx_isSmall_29 : dk_at b_Tx_isSmall 29 t_Tx_isSmall_29 := dk_go 1 a_Tx_isSmall_28 rfl
theorem a_Tx_isSmall_30 : dk_at b_Tx_isSmall 30 t_Tx_isSmall_30 := dk_go 1 a_Tx_isSmall_29 rfl
theorem a_Tx_isSmall_32 : dk_at b_Tx_isSmall 32 t_Tx_isSmall_32 := dk_go 2 a_Tx_isSmall_30 rfl
theorem a_Tx_isSmall_35 : dk_at b_Tx_isSmall 35 t_Tx_isSmall_35 := dk_go 3 a_Tx_isSmall_32 rfl
theorem a_Tx_isSmall_36 : dk_at b_Tx_isSmall 36 t_Tx_isSmall_36 := dk_go 1 a_Tx_isSmall_35 rfl
theorem a_Tx_isSmall_38 : dk_at b_Tx_isSmall 38 t_Tx_isSmall_38 := dk_go 2 a_Tx_isSmall_36 rfl
theorem a_Tx_isSmall_41 : dk_at b_Tx_isSmall 41 t_Tx_isSmall_41 := dk_go 3 a_Tx_isSmall_38 rfl
theorem a_Tx_isSmall_42 : dk_at b_Tx_isSmall 42 t_Tx_isSmall_42 := dk_go 1 a_Tx_isSmall_41 rfl
theorem a_Tx_isSmall_45 : dk_at b_Tx_isSmall 45 t_Tx_isSmall_45 := dk_go 3 a_Tx_isSmall_42 rfl
theorem a_Tx_isSmall_46 : dk_at b_Tx_isSmall 46 t_Tx_isSmall_46 := dk_go 1 a_Tx_isSmall_45 rfl
theorem a_Tx_isSmall_47 : dk_at b_Tx_isSmall 47 t_Tx_isSmall_47 := dk_go 1 a_Tx_isSmall_46 rfl
theorem a_Tx_isSmall_48 : dk_at b_Tx_isSmall 48 t_Tx_isSmall_48 := dk_go 1 a_Tx_isSmall_47 rfl
theorem a_Tx_isSmall_51 : dk_at b_Tx_isSmall 51 t_Tx_isSmall_51 := dk_go 3 a_Tx_isSmall_48 rfl
theorem a_Tx_isSmall_52 : dk_at b_Tx_isSmall 52 t_Tx_isSmall_52 := dk_go 1 a_Tx_isSmall_51 rfl
theorem a_Tx_isSmall_53 : dk_at b_Tx_isSmall 53 t_Tx_isSmall_53 := dk_go 1 a_Tx_isSmall_52 rfl
theorem a_Tx_isSmall_54 : dk_at b_Tx_isSmall 54 t_Tx_isSmall_54 := dk_go 1 a_Tx_isSmall_53 rfl
theorem a_Tx_isSmall_55 : dk_at b_Tx_isSmall 55 t_Tx_isSmall_55 := dk_go 1 a_Tx_isSmall_54 rfl
theorem a_Tx_isSmall_57 : dk_at b_Tx_isSmall 57 t_Tx_isSmall_57 := dk_go 2 a_Tx_isSmall_55 rfl
theorem a_Tx_isSmall_59 : dk_at b_Tx_isSmall 59 t_Tx_isSmall_59 := dk_go 2 a_Tx_isSmall_57 rfl
theorem a_Tx_isSmall_60 : dk_at b_Tx_isSmall 60 t_Tx_isSmall_60 := dk_go 1 a_Tx_isSmall_59 rfl
theorem a_Tx_isSmall_63 : dk_at b_Tx_isSmall 63 t_Tx_isSmall_63 := dk_go 3 a_Tx_isSmall_60 rfl
theorem a_Tx_isSmall_64 : dk_at b_Tx_isSmall 64 t_Tx_isSmall_64 := dk_go 1 a_Tx_isSmall_63 rfl
theorem a_Tx_isSmall_67 : dk_at b_Tx_isSmall 67 t_Tx_isSmall_67 := dk_go 3 a_Tx_isSmall_64 rfl
theorem a_Tx_isSmall_68 : dk_at b_Tx_isSmall 68 t_Tx_isSmall_68 := dk_go 1 a_Tx_isSmall_67 rfl
theorem a_Tx_isSmall_69 : dk_at b_Tx_isSmall 69 t_Tx_isSmall_69 := dk_go 1 a_Tx_isSmall_68 rfl
theorem a_Tx_isSmall_70 : dk_at b_Tx_isSmall 70 t_Tx_isSmall_70 := dk_go 1 a_Tx_isSmall_69 rfl
theorem a_Tx_isSmall_73 : dk_at b_Tx_isSmall 73 t_Tx_isSmall_73 := dk_go 3 a_Tx_isSmall_70 rfl
theorem a_Tx_isSmall_74 : dk_at b_Tx_isSmall 74 t_Tx_isSmall_74 := dk_go 1 a_Tx_isSmall_73 rfl
theorem a_Tx_isSmall_77 : dk_at b_Tx_isSmall 77 t_Tx_isSmall_77 := dk_go 3 a_Tx_isSmall_74 rfl
theorem a_Tx_isSmall_78 : dk_at b_Tx_isSmall 78 t_Tx_isSmall_78 := dk_go 1 a_Tx_isSmall_77 rfl
theorem a_Tx_isSmall_81 : dk_at b_Tx_isSmall 81 t_Tx_isSmall_81 := dk_go 3 a_Tx_isSmall_78 rfl
theorem a_Tx_isSmall_82 : dk_at b_Tx_isSmall 82 t_Tx_isSmall_82 := dk_go 1 a_Tx_isSmall_81 rfl
theorem a_Tx_isSmall_85 : dk_at b_Tx_isSmall 85 t_Tx_isSmall_85 := dk_go 3 a_Tx_isSmall_82 rfl
theorem a_Tx_isSmall_86 : dk_at b_Tx_isSmall 86 t_Tx_isSmall_86 := dk_go 1 a_Tx_isSmall_85 rfl
theorem a_Tx_isSmall_89 : dk_at b_Tx_isSmall 89 t_Tx_isSmall_89 := dk_go 3 a_Tx_isSmall_86 rfl
theorem a_Tx_isSmall_90 : dk_at b_Tx_isSmall 90 t_Tx_isSmall_90 := dk_go 1 a_Tx_isSmall_89 rfl
theorem a_Tx_isSmall_91 : dk_at b_Tx_isSmall 91 t_Tx_isSmall_91 := dk_go 1 a_Tx_isSmall_90 rfl
theorem a_Tx_isSmall_92 : dk_at b_Tx_isSmall 92 t_Tx_isSmall_92 := dk_go 1 a_Tx_isSmall_91 rfl
theorem a_Tx_isSmall_93 : dk_at b_Tx_isSmall 93 t_Tx_isSmall_93 := dk_go 1 a_Tx_isSmall_92 rfl
theorem a_Tx_isSmall_95 : dk_at b_Tx_isSmall 95 t_Tx_isSmall_95 := dk_go 2 a_Tx_isSmall_93 rfl
theorem a_Tx_isSmall_96 : dk_at b_Tx_isSmall 96 t_Tx_isSmall_96 := dk_go 1 a_Tx_isSmall_95 rfl
theorem a_Tx_isSmall_97 : dk_at b_Tx_isSmall 97 t_Tx_isSmall_97 := dk_go 1 a_Tx_isSmall_96 rfl
theorem a_Tx_isSmall_99 : dk_at b_Tx_isSmall 99 t_Tx_isSmall_99 := dk_go 2 a_Tx_isSmall_97 rfl
theorem a_Tx_isSmall_100 : dk_at b_Tx_isSmall 100 t_Tx_isSmall_100 := dk_go 1 a_Tx_isSmall_99 rfl
theorem a_Tx_isSmall_103 : dk_at b_Tx_isSmall 103 t_Tx_isSmall_103 := dk_go 3 a_Tx_isSmall_100 rfl
theorem a_Tx_isSmall_104 : dk_at b_Tx_isSmall 104 t_Tx_isSmall_104 := dk_go 1 a_Tx_isSmall_103 rfl
theorem a_Tx_isSmall_105 : dk_at b_Tx_isSmall 105 t_Tx_isSmall_105 := dk_go 1 a_Tx_isSmall_104 rfl
theorem a_Tx_isSmall_106 : dk_at b_Tx_isSmall 106 t_Tx_isSmall_106 := dk_go 1 a_Tx_isSmall_105 rfl
theorem a_Tx_isSmall_107 : dk_at b_Tx_isSmall 107 t_Tx_isSmall_107 := dk_go 1 a_Tx_isSmall_106 rfl
theorem a_Tx_isSmall_110 : dk_at b_Tx_isSmall 110 t_Tx_isSmall_110 := dk_go 3 a_Tx_isSmall_107 rfl
theorem a_Tx_isSmall_112 : dk_at b_Tx_isSmall 112 t_Tx_isSmall_112 := dk_go 2 a_Tx_isSmall_110 rfl
theorem a_Tx_isSmall_113 : dk_at b_Tx_isSmall 113 t_Tx_isSmall_113 := dk_go 1 a_Tx_isSmall_112 rfl
theorem a_Tx_isSmall_114 : dk_at b_Tx_isSmall 114 t_Tx_isSmall_114 := dk_go 1 a_Tx_isSmall_113 rfl
theorem a_Tx_isSmall_115 : dk_at b_Tx_isSmall 115 t_Tx_isSmall_115 := dk_go 1 a_Tx_isSmall_114 rfl
theorem a_Tx_isSmall_116 : dk_at b_Tx_isSmall 116 t_Tx_isSmall_116 := dk_go 1 a_Tx_isSmall_115 rfl
theorem a_Tx_isSmall_119 : dk_at b_Tx_isSmall 119 t_Tx_isSmall_119 := dk_go 3 a_Tx_isSmall_116 rfl
theorem a_Tx_isSmall_120 : dk_at b_Tx_isSmall 120 t_Tx_isSmall_120 := dk_go 1 a_Tx_isSmall_119 rfl
theorem a_Tx_isSmall_121 : dk_at b_Tx_isSmall 121 t_Tx_isSmall_121 := dk_go 1 a_Tx_isSmall_120 rfl
theorem a_Tx_isSmall_124 : dk_at b_Tx_isSmall 124 t_Tx_isSmall_124 := dk_go 3 a_Tx_isSmall_121 rfl
theorem a_Tx_isSmall_126 : dk_at b_Tx_isSmall 126 t_Tx_isSmall_126 := dk_go 2 a_Tx_isSmall_124 rfl
theorem a_Tx_isSmall_127 : dk_at b_Tx_isSmall 127 t_Tx_isSmall_127 := dk_go 1 a_Tx_isSmall_126 rfl
theorem a_Tx_isSmall_128 : dk_at b_Tx_isSmall 128 t_Tx_isSmall_128 := dk_go 1 a_Tx_isSmall_127 rfl
theorem a_Tx_isSmall_131 : dk_at b_Tx_isSmall 131 t_Tx_isSmall_131 := dk_go 3 a_Tx_isSmall_128 rfl
theorem a_Tx_isSmall_132 : dk_at b_Tx_isSmall 132 t_Tx_isSmall_132 := dk_go 1 a_Tx_isSmall_131 rfl
theorem a_Tx_isSmall_133 : dk_at b_Tx_isSmall 133 t_Tx_isSmall_133 := dk_go 1 a_Tx_isSmall_132 rfl
theorem a_Tx_isSmall_136 : dk_at b_Tx_isSmall 136 t_Tx_isSmall_136 := dk_go 3 a_Tx_isSmall_133 rfl
theorem a_Tx_isSmall_137 : dk_at b_Tx_isSmall 137 t_Tx_isSmall_137 := dk_go 1 a_Tx_isSmall_136 rfl
theorem a_Tx_isSmall_140 : dk_at b_Tx_isSmall 140 t_Tx_isSmall_140 := dk_go 3 a_Tx_isSmall_137 rfl
theorem a_Tx_isSmall_142 : dk_at b_Tx_isSmall 142 t_Tx_isSmall_142 := dk_go 2 a_Tx_isSmall_140 rfl
theorem a_Tx_isSmall_143 : dk_at b_Tx_isSmall 143 t_Tx_isSmall_143 := dk_go 1 a_Tx_isSmall_142 rfl
theorem a_Tx_isSmall_146 : dk_at b_Tx_isSmall 146 t_Tx_isSmall_146 := dk_go 3 a_Tx_isSmall_143 rfl
theorem a_Tx_isSmall_147 : dk_at b_Tx_isSmall 147 t_Tx_isSmall_147 := dk_go 1 a_Tx_isSmall_146 rfl
theorem a_Tx_isSmall_150 : dk_at b_Tx_isSmall 150 t_Tx_isSmall_150 := dk_go 3 a_Tx_isSmall_147 rfl
theorem a_Tx_isSmall_151 : dk_at b_Tx_isSmall 151 t_Tx_isSmall_151 := dk_go 1 a_Tx_isSmall_150 rfl
theorem a_Tx_isSmall_152 : dk_at b_Tx_isSmall 152 t_Tx_isSmall_152 := dk_go 1 a_Tx_isSmall_151 rfl
theorem a_Tx_isSmall_153 : dk_at b_Tx_isSmall 153 t_Tx_isSmall_153 := dk_go 1 a_Tx_isSmall_152 rfl
theorem a_Tx_isSmall_156 : dk_at b_Tx_isSmall 156 t_Tx_isSmall_156 := dk_go 3 a_Tx_isSmall_153 rfl
theorem a_Tx_isSmall_159 : dk_at b_Tx_isSmall 159 t_Tx_isSmall_159 := dk_go 3 a_Tx_isSmall_156 rfl
theorem a_Tx_isSmall_160 : dk_at b_Tx_isSmall 160 t_Tx_isSmall_160 := dk_go 1 a_Tx_isSmall_159 rfl
theorem a_Tx_isSmall_162 : dk_at b_Tx_isSmall 162 t_Tx_isSmall_162 := dk_go 2 a_Tx_isSmall_160 rfl
theorem a_Tx_isSmall_165 : dk_at b_Tx_isSmall 165 t_Tx_isSmall_165 := dk_go 3 a_Tx_isSmall_162 rfl
theorem a_Tx_isSmall_166 : dk_at b_Tx_isSmall 166 t_Tx_isSmall_166 := dk_go 1 a_Tx_isSmall_165 rfl
theorem a_Tx_isSmall_169 : dk_at b_Tx_isSmall 169 t_Tx_isSmall_169 := dk_go 3 a_Tx_isSmall_166 rfl
theorem a_Tx_isSmall_171 : dk_at b_Tx_isSmall 171 t_Tx_isSmall_171 := dk_go 2 a_Tx_isSmall_169 rfl
theorem a_Tx_isSmall_172 : dk_at b_Tx_isSmall 172 t_Tx_isSmall_172 := dk_go 1 a_Tx_isSmall_171 rfl
theorem a_Tx_isSmall_173 : dk_at b_Tx_isSmall 173 t_Tx_isSmall_173 := dk_go 1 a_Tx_isSmall_172 rfl
theorem a_Tx_isSmall_176 : dk_at b_Tx_isSmall 176 t_Tx_isSmall_176 := dk_go 3 a_Tx_isSmall_173 rfl
theorem a_Tx_isSmall_177 : dk_at b_Tx_isSmall 177 t_Tx_isSmall_177 := dk_go 1 a_Tx_isSmall_176 rfl
theorem a_Tx_isSmall_178 : dk_at b_Tx_isSmall 178 t_Tx_isSmall_178 := dk_go 1 a_Tx_isSmall_177 rfl
theorem a_Tx_isSmall_179 : dk_at b_Tx_isSmall 179 t_Tx_isSmall_179 := dk_go 1 a_Tx_isSmall_178 rfl
theorem a_Tx_isSmall_182 : dk_at b_Tx_isSmall 182 t_Tx_isSmall_182 := dk_go 3 a_Tx_isSmall_179 rfl
theorem a_Tx_isSmall_183 : dk_at b_Tx_isSmall 183 t_Tx_isSmall_183 := dk_go 1 a_Tx_isSmall_182 rfl
theorem a_Tx_isSmall_186 : dk_at b_Tx_isSmall 186 t_Tx_isSmall_186 := dk_go 3 a_Tx_isSmall_183 rfl
theorem a_Tx_isSmall_187 : dk_at b_Tx_isSmall 187 t_Tx_isSmall_187 := dk_go 1 a_Tx_isSmall_186 rfl
theorem a_Tx_isSmall_188 : dk_at b_Tx_isSmall 188 t_Tx_isSmall_188 := dk_go 1 a_Tx_isSmall_187 rfl
theorem a_Tx_isSmall_189 : dk_at b_Tx_isSmall 189 t_Tx_isSmall_189 := dk_go 1 a_Tx_isSmall_188 rfl
theorem a_Tx_isSmall_190 : dk_at b_Tx_isSmall 190 t_Tx_isSmall_190 := dk_go 1 a_Tx_isSmall_189 rfl
theorem a_Tx_isSmall_191 : dk_at b_Tx_isSmall 191 t_Tx_isSmall_191 := dk_go 1 a_Tx_isSmall_190 rfl
theorem a_Tx_isSmall_192 : dk_at b_Tx_isSmall 192 t_Tx_isSmall_192 := dk_go 1 a_Tx_isSmall_191 rfl
theorem a_Tx_isSmall_194 : dk_at b_Tx_isSmall 194 t_Tx_isSmall_194 := dk_go 2 a_Tx_isSmall_192 rfl
theorem a_Tx_isSmall_195 : dk_at b_Tx_isSmall 195 t_Tx_isSmall_195 := dk_go 1 a_Tx_isSmall_194 rfl
theorem a_Tx_isSmall_198 : dk_at b_Tx_isSmall 198 t_Tx_isSmall_198 := dk_go 3 a_Tx_isSmall_195 rfl
theorem a_Tx_isSmall_199 : dk_at b_Tx_isSmall 199 t_Tx_isSmall_199 := dk_go 1 a_Tx_isSmall_198 rfl
theorem a_Tx_isSmall_200 : dk_at b_Tx_isSmall 200 t_Tx_isSmall_200 := dk_go 1 a_Tx_isSmall_199 rfl
theorem a_Tx_isSmall_201 : dk_at b_Tx_isSmall 201 t_Tx_isSmall_201 := dk_go 1 a_Tx_isSmall_200 rfl
theorem a_Tx_isSmall_202 : dk_at b_Tx_isSmall 202 t_Tx_isSmall_202 := dk_go 1 a_Tx_isSmall_201 rfl
theorem a_Tx_isSmall_205 : dk_at b_Tx_isSmall 205 t_Tx_isSmall_205 := dk_go 3 a_Tx_isSmall_202 rfl
theorem a_Tx_isSmall_206 : dk_at b_Tx_isSmall 206 t_Tx_isSmall_206 := dk_go 1 a_Tx_isSmall_205 rfl
theorem a_Tx_isSmall_209 : dk_at b_Tx_isSmall 209 t_Tx_isSmall_209 := dk_go 3 a_Tx_isSmall_206 rfl
theorem a_Tx_isSmall_210 : dk_at b_Tx_isSmall 210 t_Tx_isSmall_210 := dk_go 1 a_Tx_isSmall_209 rfl
theorem a_Tx_isSmall_213 : dk_at b_Tx_isSmall 213 t_Tx_isSmall_213 := dk_go 3 a_Tx_isSmall_210 rfl
theorem a_Tx_isSmall_214 : dk_at b_Tx_isSmall 214 t_Tx_isSmall_214 := dk_go 1 a_Tx_isSmall_213 rfl
theorem a_Tx_isSmall_217 : dk_at b_Tx_isSmall 217 t_Tx_isSmall_217 := dk_go 3 a_Tx_isSmall_214 rfl
theorem a_Tx_isSmall_218 : dk_at b_Tx_isSmall 218 t_Tx_isSmall_218 := dk_go 1 a_Tx_isSmall_217 rfl
theorem a_Tx_isSmall_221 : dk_at b_Tx_isSmall 221 t_Tx_isSmall_221 := dk_go 3 a_Tx_isSmall_218 rfl
theorem a_Tx_isSmall_223 : dk_at b_Tx_isSmall 223 t_Tx_isSmall_223 := dk_go 2 a_Tx_isSmall_221 rfl
theorem a_Tx_isSmall_224 : dk_at b_Tx_isSmall 224 t_Tx_isSmall_224 := dk_go 1 a_Tx_isSmall_223 rfl
theorem a_Tx_isSmall_225 : dk_at b_Tx_isSmall 225 t_Tx_isSmall_225 := dk_go 1 a_Tx_isSmall_224 rfl
theorem a_Tx_isSmall_226 : dk_at b_Tx_isSmall 226 t_Tx_isSmall_226 := dk_go 1 a_Tx_isSmall_225 rfl
theorem a_Tx_isSmall_227 : dk_at b_Tx_isSmall 227 t_Tx_isSmall_227 := dk_go 1 a_Tx_isSmall_226 rfl
theorem a_Tx_isSmall_228 : dk_at b_Tx_isSmall 228 t_Tx_isSmall_228 := dk_go 1 a_Tx_isSmall_227 rfl
theorem a_Tx_isSmall_229 : dk_at b_Tx_isSmall 229 t_Tx_isSmall_229 := dk_go 1 a_Tx_isSmall_228 rfl
theorem a_Tx_isSmall_230 : dk_at b_Tx_isSmall 230 t_Tx_isSmall_230 := dk_go 1 a_Tx_isSmall_229 rfl
theorem a_Tx_isSmall_231 : dk_at b_Tx_isSmall 231 t_Tx_isSmall_231 := dk_go 1 a_Tx_isSmall_230 rfl
theorem a_Tx_isSmall_234 : dk_at b_Tx_isSmall 234 t_Tx_isSmall_234 := dk_go 3 a_Tx_isSmall_231 rfl
theorem a_Tx_isSmall_235 : dk_at b_Tx_isSmall 235 t_Tx_isSmall_235 := dk_go 1 a_Tx_isSmall_234 rfl
theorem a_Tx_isSmall_236 : dk_at b_Tx_isSmall 236 t_Tx_isSmall_236 := dk_go 1 a_Tx_isSmall_235 rfl
theorem a_Tx_isSmall_239 : dk_at b_Tx_isSmall 239 t_Tx_isSmall_239 := dk_go 3 a_Tx_isSmall_236 rfl
theorem a_Tx_isSmall_240 : dk_at b_Tx_isSmall 240 t_Tx_isSmall_240 := dk_go 1 a_Tx_isSmall_239 rfl
theorem a_Tx_isSmall_243 : dk_at b_Tx_isSmall 243 t_Tx_isSmall_243 := dk_go 3 a_Tx_isSmall_240 rfl
theorem a_Tx_isSmall_244 : dk_at b_Tx_isSmall 244 t_Tx_isSmall_244 := dk_go 1 a_Tx_isSmall_243 rfl
theorem a_Tx_isSmall_247 : dk_at b_Tx_isSmall 247 t_Tx_isSmall_247 := dk_go 3 a_Tx_isSmall_244 rfl
theorem a_Tx_isSmall_248 : dk_at b_Tx_isSmall 248 t_Tx_isSmall_248 := dk_go 1 a_Tx_isSmall_247 rfl
theorem a_Tx_isSmall_251 : dk_at b_Tx_isSmall 251 t_Tx_isSmall_251 := dk_go 3 a_Tx_isSmall_248 rfl
theorem a_Tx_isSmall_252 : dk_at b_Tx_isSmall 252 t_Tx_isSmall_252 := dk_go 1 a_Tx_isSmall_251 rfl
theorem a_Tx_isSmall_255 : dk_at b_Tx_isSmall 255 t_Tx_isSmall_255 := dk_go 3 a_Tx_isSmall_252 rfl
theorem a_Tx_isSmall_257 : dk_at b_Tx_isSmall 257 t_Tx_isSmall_257 := dk_go 2 a_Tx_isSmall_255 rfl
theorem a_Tx_isSmall_258 : dk_at b_Tx_isSmall 258 t_Tx_isSmall_258 := dk_go 1 a_Tx_isSmall_257 rfl
theorem a_Tx_isSmall_259 : dk_at b_Tx_isSmall 259 t_Tx_isSmall_259 := dk_go 1 a_Tx_isSmall_258 rfl
theorem a_Tx_isSmall_260 : dk_at b_Tx_isSmall 260 t_Tx_isSmall_260 := dk_go 1 a_Tx_isSmall_259 rfl
theorem a_Tx_isSmall_261 : dk_at b_Tx_isSmall 261 t_Tx_isSmall_261 := dk_go 1 a_Tx_isSmall_260 rfl
theorem a_Tx_isSmall_262 : dk_at b_Tx_isSmall 262 t_Tx_isSmall_262 := dk_go 1 a_Tx_isSmall_261 rfl
theorem a_Tx_isSmall_263 : dk_at b_Tx_isSmall 263 t_Tx_isSmall_263 := dk_go 1 a_Tx_isSmall_262 rfl
theorem a_Tx_isSmall_264 : dk_at b_Tx_isSmall 264 t_Tx_isSmall_264 := dk_go 1 a_Tx_isSmall_263 rfl
theorem a_Tx_isSmall_267 : dk_at b_Tx_isSmall 267 t_Tx_isSmall_267 := dk_go 3 a_Tx_isSmall_264 rfl
theorem a_Tx_isSmall_268 : dk_at b_Tx_isSmall 268 t_Tx_isSmall_268 := dk_go 1 a_Tx_isSmall_267 rfl
theorem a_Tx_isSmall_269 : dk_at b_Tx_isSmall 269 t_Tx_isSmall_269 := dk_go 1 a_Tx_isSmall_268 rfl
theorem a_Tx_isSmall_270 : dk_at b_Tx_isSmall 270 t_Tx_isSmall_270 := dk_go 1 a_Tx_isSmall_269 rfl
theorem a_Tx_isSmall_271 : dk_at b_Tx_isSmall 271 t_Tx_isSmall_271 := dk_go 1 a_Tx_isSmall_270 rfl
theorem a_Tx_isSmall_273 : dk_at b_Tx_isSmall 273 t_Tx_isSmall_273 := dk_go 2 a_Tx_isSmall_271 rfl
theorem a_Tx_isSmall_276 : dk_at b_Tx_isSmall 276 t_Tx_isSmall_276 := dk_go 3 a_Tx_isSmall_273 rfl
theorem a_Tx_isSmall_277 : dk_at b_Tx_isSmall 277 t_Tx_isSmall_277 := dk_go 1 a_Tx_isSmall_276 rfl
theorem a_Tx_isSmall_280 : dk_at b_Tx_isSmall 280 t_Tx_isSmall_280 := dk_go 3 a_Tx_isSmall_277 rfl
theorem a_Tx_isSmall_281 : dk_at b_Tx_isSmall 281 t_Tx_isSmall_281 := dk_go 1 a_Tx_isSmall_280 rfl
theorem a_Tx_isSmall_282 : dk_at b_Tx_isSmall 282 t_Tx_isSmall_282 := dk_go 1 a_Tx_isSmall_281 rfl
theorem a_Tx_isSmall_283 : dk_at b_Tx_isSmall 283 t_Tx_isSmall_283 := dk_go 1 a_Tx_isSmall_282 rfl
theorem a_Tx_isSmall_284 : dk_at b_Tx_isSmall 284 t_Tx_isSmall_284 := dk_go 1 a_Tx_isSmall_283 rfl
theorem a_Tx_isSmall_287 : dk_at b_Tx_isSmall 287 t_Tx_isSmall_287 := dk_go 3 a_Tx_isSmall_284 rfl
theorem a_Tx_isSmall_288 : dk_at b_Tx_isSmall 288 t_Tx_isSmall_288 := dk_go 1 a_Tx_isSmall_287 rfl
theorem a_Tx_isSmall_289 : dk_at b_Tx_isSmall 289 t_Tx_isSmall_289 := dk_go 1 a_Tx_isSmall_288 rfl
theorem a_Tx_isSmall_292 : dk_at b_Tx_isSmall 292 t_Tx_isSmall_292 := dk_go 3 a_Tx_isSmall_289 rfl
theorem a_Tx_isSmall_293 : dk_at b_Tx_isSmall 293 t_Tx_isSmall_293 := dk_go 1 a_Tx_isSmall_292 rfl
theorem a_Tx_isSmall_294 : dk_at b_Tx_isSmall 294 t_Tx_isSmall_294 := dk_go 1 a_Tx_isSmall_293 rfl
theorem a_Tx_isSmall_297 : dk_at b_Tx_isSmall 297 t_Tx_isSmall_297 := dk_go 3 a_Tx_isSmall_294 rfl
theorem a_Tx_isSmall_300 : dk_at b_Tx_isSmall 300 t_Tx_isSmall_300 := dk_go 3 a_Tx_isSmall_297 rfl
theorem a_Tx_isSmall_303 : dk_at b_Tx_isSmall 303 t_Tx_isSmall_303 := dk_go 3 a_Tx_isSmall_300 rfl
theorem a_Tx_isSmall_306 : dk_at b_Tx_isSmall 306 t_Tx_isSmall_306 := dk_go 3 a_Tx_isSmall_303 rfl
theorem a_Tx_isSmall_307 : dk_at b_Tx_isSmall 307 t_Tx_isSmall_307 := dk_go 1 a_Tx_isSmall_306 rfl
theorem a_Tx_isSmall_310 : dk_at b_Tx_isSmall 310 t_Tx_isSmall_310 := dk_go 3 a_Tx_isSmall_307 rfl
theorem a_Tx_isSmall_311 : dk_at b_Tx_isSmall 311 t_Tx_isSmall_311 := dk_go 1 a_Tx_isSmall_310 rfl
theorem a_Tx_isSmall_312 : dk_at b_Tx_isSmall 312 t_Tx_isSmall_312 := dk_go 1 a_Tx_isSmall_311 rfl
theorem a_Tx_isSmall_313 : dk_at b_Tx_isSmall 313 t_Tx_isSmall_313 := dk_go 1 a_Tx_isSmall_312 rfl
theorem a_Tx_isSmall_316 : dk_at b_Tx_isSmall 316 t_Tx_isSmall_316 := dk_go 3 a_Tx_isSmall_313 rfl
theorem a_Tx_isSmall_319 : dk_at b_Tx_isSmall 319 t_Tx_isSmall_319 := dk_go 3 a_Tx_isSmall_316 rfl
theorem a_Tx_isSmall_320 : dk_at b_Tx_isSmall 320 t_Tx_isSmall_320 := dk_go 1 a_Tx_isSmall_319 rfl
theorem a_Tx_isSmall_321 : dk_at b_Tx_isSmall 321 t_Tx_isSmall_321 := dk_go 1 a_Tx_isSmall_320 rfl
theorem a_Tx_isSmall_322 : dk_at b_Tx_isSmall 322 t_Tx_isSmall_322 := dk_go 1 a_Tx_isSmall_321 rfl
theorem a_Tx_isSmall_323 : dk_at b_Tx_isSmall 323 t_Tx_isSmall_323 := dk_go 1 a_Tx_isSmall_322 rfl
theorem a_Tx_isSmall_326 : dk_at b_Tx_isSmall 326 t_Tx_isSmall_326 := dk_go 3 a_Tx_isSmall_323 rfl
theorem a_Tx_isSmall_329 : dk_at b_Tx_isSmall 329 t_Tx_isSmall_329 := dk_go 3 a_Tx_isSmall_326 rfl
theorem a_Tx_isSmall_330 : dk_at b_Tx_isSmall 330 t_Tx_isSmall_330 := dk_go 1 a_Tx_isSmall_329 rfl
theorem a_Tx_isSmall_333 : dk_at b_Tx_isSmall 333 t_Tx_isSmall_333 := dk_go 3 a_Tx_isSmall_330 rfl
theorem a_Tx_isSmall_336 : dk_at b_Tx_isSmall 336 t_Tx_isSmall_336 := dk_go 3 a_Tx_isSmall_333 rfl
theorem a_Tx_isSmall_337 : dk_at b_Tx_isSmall 337 t_Tx_isSmall_337 := dk_go 1 a_Tx_isSmall_336 rfl
theorem a_Tx_isSmall_340 : dk_at b_Tx_isSmall 340 t_Tx_isSmall_340 := dk_go 3 a_Tx_isSmall_337 rfl
theorem a_Tx_isSmall_341 : dk_at b_Tx_isSmall 341 t_Tx_isSmall_341 := dk_go 1 a_Tx_isSmall_340 rfl
theorem a_Tx_isSmall_344 : dk_at b_Tx_isSmall 344 t_Tx_isSmall_344 := dk_go 3 a_Tx_isSmall_341 rfl
theorem a_Tx_isSmall_345 : dk_at b_Tx_isSmall 345 t_Tx_isSmall_345 := dk_go 1 a_Tx_isSmall_344 rfl
theorem a_Tx_isSmall_346 : dk_at b_Tx_isSmall 346 t_Tx_isSmall_346 := dk_go 1 a_Tx_isSmall_345 rfl
theorem a_Tx_isSmall_347 : dk_at b_Tx_isSmall 347 t_Tx_isSmall_347 := dk_go 1 a_Tx_isSmall_346 rfl
theorem a_Tx_isSmall_348 : dk_at b_Tx_isSmall 348 t_Tx_isSmall_348 := dk_go 1 a_Tx_isSmall_347 rfl
theorem a_Tx_isSmall_349 : dk_at b_Tx_isSmall 349 t_Tx_isSmall_349 := dk_go 1 a_Tx_isSmall_348 rfl
theorem a_Tx_isSmall_350 : dk_at b_Tx_isSmall 350 t_Tx_isSmall_350 := dk_go 1 a_Tx_isSmall_349 rfl
theorem a_Tx_isSmall_353 : dk_at b_Tx_isSmall 353 t_Tx_isSmall_353 := dk_go 3 a_Tx_isSmall_350 rfl
theorem a_Tx_isSmall_354 : dk_at b_Tx_isSmall 354 t_Tx_isSmall_354 := dk_go 1 a_Tx_isSmall_353 rfl
theorem a_Tx_isSmall_357 : dk_at b_Tx_isSmall 357 t_Tx_isSmall_357 := dk_go 3 a_Tx_isSmall_354 rfl
theorem a_Tx_isSmall_358 : dk_at b_Tx_isSmall 358 t_Tx_isSmall_358 := dk_go 1 a_Tx_isSmall_357 rfl
theorem a_Tx_isSmall_359 : dk_at b_Tx_isSmall 359 t_Tx_isSmall_359 := dk_go 1 a_Tx_isSmall_358 rfl
theorem a_Tx_isSmall_360 : dk_at b_Tx_isSmall 360 t_Tx_isSmall_360 := dk_go 1 a_Tx_isSmall_359 rfl
theorem a_Tx_isSmall_362 : dk_at b_Tx_isSmall 362 t_Tx_isSmall_362 := dk_go 2 a_Tx_isSmall_360 rfl
theorem a_Tx_isSmall_365 : dk_at b_Tx_isSmall 365 t_Tx_isSmall_365 := dk_go 3 a_Tx_isSmall_362 rfl
theorem a_Tx_isSmall_366 : dk_at b_Tx_isSmall 366 t_Tx_isSmall_366 := dk_go 1 a_Tx_isSmall_365 rfl
theorem a_Tx_isSmall_369 : dk_at b_Tx_isSmall 369 t_Tx_isSmall_369 := dk_go 3 a_Tx_isSmall_366 rfl
theorem a_Tx_isSmall_370 : dk_at b_Tx_isSmall 370 t_Tx_isSmall_370 := dk_go 1 a_Tx_isSmall_369 rfl
theorem a_Tx_isSmall_373 : dk_at b_Tx_isSmall 373 t_Tx_isSmall_373 := dk_go 3 a_Tx_isSmall_370 rfl
theorem a_Tx_isSmall_374 : dk_at b_Tx_isSmall 374 t_Tx_isSmall_374 := dk_go 1 a_Tx_isSmall_373 rfl
theorem a_Tx_isSmall_375 : dk_at b_Tx_isSmall 375 t_Tx_isSmall_375 := dk_go 1 a_Tx_isSmall_374 rfl
theorem a_Tx_isSmall_377 : dk_at b_Tx_isSmall 377 t_Tx_isSmall_377 := dk_go 2 a_Tx_isSmall_375 rfl
theorem a_Tx_isSmall_380 : dk_at b_Tx_isSmall 380 t_Tx_isSmall_380 := dk_go 3 a_Tx_isSmall_377 rfl
theorem a_Tx_isSmall_383 : dk_at b_Tx_isSmall 383 t_Tx_isSmall_383 := dk_go 3 a_Tx_isSmall_380 rfl
theorem a_Tx_isSmall_386 : dk_at b_Tx_isSmall 386 t_Tx_isSmall_386 := dk_go 3 a_Tx_isSmall_383 rfl
theorem a_Tx_isSmall_387 : dk_at b_Tx_isSmall 387 t_Tx_isSmall_387 := dk_go 1 a_Tx_isSmall_386 rfl
theorem a_Tx_isSmall_390 : dk_at b_Tx_isSmall 390 t_Tx_isSmall_390 := dk_go 3 a_Tx_isSmall_387 rfl
theorem a_Tx_isSmall_391 : dk_at b_Tx_isSmall 391 t_Tx_isSmall_391 := dk_go 1 a_Tx_isSmall_390 rfl
theorem a_Tx_isSmall_392 : dk_at b_Tx_isSmall 392 t_Tx_isSmall_392 := dk_go 1 a_Tx_isSmall_391 rfl
theorem a_Tx_isSmall_393 : dk_at b_Tx_isSmall 393 t_Tx_isSmall_393 := dk_go 1 a_Tx_isSmall_392 rfl
theorem a_Tx_isSmall_394 : dk_at b_Tx_isSmall 394 t_Tx_isSmall_394 := dk_go 1 a_Tx_isSmall_393 rfl
theorem a_Tx_isSmall_397 : dk_at b_Tx_isSmall 397 t_Tx_isSmall_397 := dk_go 3 a_Tx_isSmall_394 rfl
theorem a_Tx_isSmall_400 : dk_at b_Tx_isSmall 400 t_Tx_isSmall_400 := dk_go 3 a_Tx_isSmall_397 rfl
theorem a_Tx_isSmall_401 : dk_at b_Tx_isSmall 401 t_Tx_isSmall_401 := dk_go 1 a_Tx_isSmall_400 rfl
theorem a_Tx_isSmall_402 : dk_at b_Tx_isSmall 402 t_Tx_isSmall_402 := dk_go 1 a_Tx_isSmall_401 rfl
theorem a_Tx_isSmall_405 : dk_at b_Tx_isSmall 405 t_Tx_isSmall_405 := dk_go 3 a_Tx_isSmall_402 rfl
theorem a_Tx_isSmall_408 : dk_at b_Tx_isSmall 408 t_Tx_isSmall_408 := dk_go 3 a_Tx_isSmall_405 rfl
theorem a_Tx_isSmall_409 : dk_at b_Tx_isSmall 409 t_Tx_isSmall_409 := dk_go 1 a_Tx_isSmall_408 rfl
theorem a_Tx_isSmall_412 : dk_at b_Tx_isSmall 412 t_Tx_isSmall_412 := dk_go 3 a_Tx_isSmall_409 rfl
theorem a_Tx_isSmall_415 : dk_at b_Tx_isSmall 415 t_Tx_isSmall_415 := dk_go 3 a_Tx_isSmall_412 rfl
theorem a_Tx_isSmall_416 : dk_at b_Tx_isSmall 416 t_Tx_isSmall_416 := dk_go 1 a_Tx_isSmall_415 rfl
theorem a_Tx_isSmall_419 : dk_at b_Tx_isSmall 419 t_Tx_isSmall_419 := dk_go 3 a_Tx_isSmall_416 rfl
theorem a_Tx_isSmall_422 : dk_at b_Tx_isSmall 422 t_Tx_isSmall_422 := dk_go 3 a_Tx_isSmall_419 rfl
theorem a_Tx_isSmall_423 : dk_at b_Tx_isSmall 423 t_Tx_isSmall_423 := dk_go 1 a_Tx_isSmall_422 rfl
theorem a_Tx_isSmall_426 : dk_at b_Tx_isSmall 426 t_Tx_isSmall_426 := dk_go 3 a_Tx_isSmall_423 rfl
theorem a_Tx_isSmall_429 : dk_at b_Tx_isSmall 429 t_Tx_isSmall_429 := dk_go 3 a_Tx_isSmall_426 rfl
theorem a_Tx_isSmall_430 : dk_at b_Tx_isSmall 430 t_Tx_isSmall_430 := dk_go 1 a_Tx_isSmall_429 rfl
theorem a_Tx_isSmall_433 : dk_at b_Tx_isSmall 433 t_Tx_isSmall_433 := dk_go 3 a_Tx_isSmall_430 rfl
theorem a_Tx_isSmall_434 : dk_at b_Tx_isSmall 434 t_Tx_isSmall_434 := dk_go 1 a_Tx_isSmall_433 rfl
theorem d_Tx_isSmall_0 : decode b_Tx_isSmall 0 = .ok (.iconst 0, 1) := dk_0 a_Tx_isSmall_0 (dko_3 _)
theorem d_Tx_isSmall_1 : decode b_Tx_isSmall 1 = .ok (.istore_n 1, 1) := dk_0 a_Tx_isSmall_1 (dko_60 _)
theorem d_Tx_isSmall_2 : decode b_Tx_isSmall 2 = .ok (.iconst 0, 1) := dk_0 a_Tx_isSmall_2 (dko_3 _)
theorem d_Tx_isSmall_3 : decode b_Tx_isSmall 3 = .ok (.istore_n 2, 1) := dk_0 a_Tx_isSmall_3 (dko_61 _)
theorem d_Tx_isSmall_4 : decode b_Tx_isSmall 4 = .ok (.iload_n 2, 1) := dk_0 a_Tx_isSmall_4 (dko_28 _)
theorem d_Tx_isSmall_5 : decode b_Tx_isSmall 5 = .ok (.aload_n 0, 1) := dk_0 a_Tx_isSmall_5 (dko_42 _)
theorem d_Tx_isSmall_6 : decode b_Tx_isSmall 6 = .ok (.getfield 189, 3) := dk_U2 a_Tx_isSmall_6 (dko_180 _) rfl
theorem d_Tx_isSmall_9 : decode b_Tx_isSmall 9 = .ok (.if_icmp .ge 310, 3) := dk_S2 a_Tx_isSmall_9 (dko_162 _) (by decide +kernel)
theorem d_Tx_isSmall_12 : decode b_Tx_isSmall 12 = .ok (.aload_n 0, 1) := dk_0 a_Tx_isSmall_12 (dko_42 _)
theorem d_Tx_isSmall_13 : decode b_Tx_isSmall 13 = .ok (.getfield 15, 3) := dk_U2 a_Tx_isSmall_13 (dko_180 _) rfl
theorem d_Tx_isSmall_16 : decode b_Tx_isSmall 16 = .ok (.aload_n 0, 1) := dk_0 a_Tx_isSmall_16 (dko_42 _)
theorem d_Tx_isSmall_17 : decode b_Tx_isSmall 17 = .ok (.invokevirtual 195, 3) := dk_U2 a_Tx_isSmall_17 (dko_182 _) rfl
theorem d_Tx_isSmall_20 : decode b_Tx_isSmall 20 = .ok (.iload_n 2, 1) := dk_0 a_Tx_isSmall_20 (dko_28 _)
theorem d_Tx_isSmall_21 : decode b_Tx_isSmall 21 = .ok (.iadd, 1) := dk_0 a_Tx_isSmall_21 (dko_96 _)
theorem d_Tx_isSmall_22 : decode b_Tx_isSmall 22 = .ok (.iaload, 1) := dk_0 a_Tx_isSmall_22 (dko_46 _)
theorem d_Tx_isSmall_23 : decode b_Tx_isSmall 23 = .ok (.istore_n 3, 1) := dk_0 a_Tx_isSmall_23 (dko_62 _)
theorem d_Tx_isSmall_24 : decode b_Tx_isSmall 24 = .ok (.aload_n 0, 1) := dk_0 a_Tx_isSmall_24 (dko_42 _)
theorem d_Tx_isSmall_25 : decode b_Tx_isSmall 25 = .ok (.getfield 59, 3) := dk_U2 a_Tx_isSmall_25 (dko_180 _) rfl
theorem d_Tx_isSmall_28 : decode b_Tx_isSmall 28 = .ok (.iload_n 2, 1) := dk_0 a_Tx_isSmall_28 (dko_28 _)
theorem d_Tx_isSmall_29 : decode b_Tx_isSmall 29 = .ok (.iload_n 3, 1) := dk_0 a_Tx_isSmall_29 (dko_29 _)
theorem d_Tx_isSmall_30 : decode b_Tx_isSmall 30 = .ok (.bipush 10, 2) := dk_S1 a_Tx_isSmall_30 (dko_16 _) (by decide +kernel)
theorem d_Tx_isSmall_32 : decode b_Tx_isSmall 32 = .ok (.if_icmp .lt 13, 3) := dk_S2 a_Tx_isSmall_32 (dko_161 _) (by decide +kernel)
theorem d_Tx_isSmall_35 : decode b_Tx_isSmall 35 = .ok (.iload_n 3, 1) := dk_0 a_Tx_isSmall_35 (dko_29 _)
theorem d_Tx_isSmall_36 : decode b_Tx_isSmall 36 = .ok (.bipush 23, 2) := dk_S1 a_Tx_isSmall_36 (dko_16 _) (by decide +kernel)
theorem d_Tx_isSmall_38 : decode b_Tx_isSmall 38 = .ok (.if_icmp .gt 7, 3) := dk_S2 a_Tx_isSmall_38 (dko_163 _) (by decide +kernel)
theorem d_Tx_isSmall_41 : decode b_Tx_isSmall 41 = .ok (.iconst 1, 1) := dk_0 a_Tx_isSmall_41 (dko_4 _)
theorem d_Tx_isSmall_42 : decode b_Tx_isSmall 42 = .ok (.goto 4, 3) := dk_S2 a_Tx_isSmall_42 (dko_167 _) (by decide +kernel)
theorem d_Tx_isSmall_45 : decode b_Tx_isSmall 45 = .ok (.iconst 0, 1) := dk_0 a_Tx_isSmall_45 (dko_3 _)
theorem d_Tx_isSmall_46 : decode b_Tx_isSmall 46 = .ok (.iastore, 1) := dk_0 a_Tx_isSmall_46 (dko_79 _)
theorem d_Tx_isSmall_47 : decode b_Tx_isSmall 47 = .ok (.aload_n 0, 1) := dk_0 a_Tx_isSmall_47 (dko_42 _)
theorem d_Tx_isSmall_48 : decode b_Tx_isSmall 48 = .ok (.getfield 62, 3) := dk_U2 a_Tx_isSmall_48 (dko_180 _) rfl
theorem d_Tx_isSmall_51 : decode b_Tx_isSmall 51 = .ok (.iload_n 2, 1) := dk_0 a_Tx_isSmall_51 (dko_28 _)
theorem d_Tx_isSmall_52 : decode b_Tx_isSmall 52 = .ok (.iconst 0, 1) := dk_0 a_Tx_isSmall_52 (dko_3 _)
theorem d_Tx_isSmall_53 : decode b_Tx_isSmall 53 = .ok (.iastore, 1) := dk_0 a_Tx_isSmall_53 (dko_79 _)
theorem d_Tx_isSmall_54 : decode b_Tx_isSmall 54 = .ok (.iconst 0, 1) := dk_0 a_Tx_isSmall_54 (dko_3 _)
theorem d_Tx_isSmall_55 : decode b_Tx_isSmall 55 = .ok (.istore 4, 2) := dk_U1 a_Tx_isSmall_55 (dko_54 _) rfl
theorem d_Tx_isSmall_57 : decode b_Tx_isSmall 57 = .ok (.iload 4, 2) := dk_U1 a_Tx_isSmall_57 (dko_21 _) rfl
theorem d_Tx_isSmall_59 : decode b_Tx_isSmall 59 = .ok (.aload_n 0, 1) := dk_0 a_Tx_isSmall_59 (dko_42 _)
theorem d_Tx_isSmall_60 : decode b_Tx_isSmall 60 = .ok (.getfield 32, 3) := dk_U2 a_Tx_isSmall_60 (dko_180 _) rfl
theorem d_Tx_isSmall_63 : decode b_Tx_isSmall 63 = .ok (.aload_n 0, 1) := dk_0 a_Tx_isSmall_63 (dko_42 _)
theorem d_Tx_isSmall_64 : decode b_Tx_isSmall 64 = .ok (.invokevirtual 195, 3) := dk_U2 a_Tx_isSmall_64 (dko_182 _) rfl
theorem d_Tx_isSmall_67 : decode b_Tx_isSmall 67 = .ok (.iload_n 2, 1) := dk_0 a_Tx_isSmall_67 (dko_28 _)
theorem d_Tx_isSmall_68 : decode b_Tx_isSmall 68 = .ok (.iadd, 1) := dk_0 a_Tx_isSmall_68 (dko_96 _)
theorem d_Tx_isSmall_69 : decode b_Tx_isSmall 69 = .ok (.iaload, 1) := dk_0 a_Tx_isSmall_69 (dko_46 _)
theorem d_Tx_isSmall_70 : decode b_Tx_isSmall 70 = .ok (.if_icmp .ge 89, 3) := dk_S2 a_Tx_isSmall_70 (dko_162 _) (by decide +kernel)
theorem d_Tx_isSmall_73 : decode b_Tx_isSmall 73 = .ok (.aload_n 0, 1) := dk_0 a_Tx_isSmall_73 (dko_42 _)
theorem d_Tx_isSmall_74 : decode b_Tx_isSmall 74 = .ok (.getfield 35, 3) := dk_U2 a_Tx_isSmall_74 (dko_180 _) rfl
theorem d_Tx_isSmall_77 : decode b_Tx_isSmall 77 = .ok (.aload_n 0, 1) := dk_0 a_Tx_isSmall_77 (dko_42 _)
theorem d_Tx_isSmall_78 : decode b_Tx_isSmall 78 = .ok (.invokevirtual 195, 3) := dk_U2 a_Tx_isSmall_78 (dko_182 _) rfl
theorem d_Tx_isSmall_81 : decode b_Tx_isSmall 81 = .ok (.aload_n 0, 1) := dk_0 a_Tx_isSmall_81 (dko_42 _)
theorem d_Tx_isSmall_82 : decode b_Tx_isSmall 82 = .ok (.getfield 29, 3) := dk_U2 a_Tx_isSmall_82 (dko_180 _) rfl
theorem d_Tx_isSmall_85 : decode b_Tx_isSmall 85 = .ok (.aload_n 0, 1) := dk_0 a_Tx_isSmall_85 (dko_42 _)
theorem d_Tx_isSmall_86 : decode b_Tx_isSmall 86 = .ok (.invokevirtual 195, 3) := dk_U2 a_Tx_isSmall_86 (dko_182 _) rfl
theorem d_Tx_isSmall_89 : decode b_Tx_isSmall 89 = .ok (.iload_n 2, 1) := dk_0 a_Tx_isSmall_89 (dko_28 _)
theorem d_Tx_isSmall_90 : decode b_Tx_isSmall 90 = .ok (.iadd, 1) := dk_0 a_Tx_isSmall_90 (dko_96 _)
theorem d_Tx_isSmall_91 : decode b_Tx_isSmall 91 = .ok (.iaload, 1) := dk_0 a_Tx_isSmall_91 (dko_46 _)
theorem d_Tx_isSmall_92 : decode b_Tx_isSmall 92 = .ok (.iadd, 1) := dk_0 a_Tx_isSmall_92 (dko_96 _)
theorem d_Tx_isSmall_93 : decode b_Tx_isSmall 93 = .ok (.iload 4, 2) := dk_U1 a_Tx_isSmall_93 (dko_21 _) rfl
theorem d_Tx_isSmall_95 : decode b_Tx_isSmall 95 = .ok (.iadd, 1) := dk_0 a_Tx_isSmall_95 (dko_96 _)
theorem d_Tx_isSmall_96 : decode b_Tx_isSmall 96 = .ok (.iaload, 1) := dk_0 a_Tx_isSmall_96 (dko_46 _)
theorem d_Tx_isSmall_97 : decode b_Tx_isSmall 97 = .ok (.istore 5, 2) := dk_U1 a_Tx_isSmall_97 (dko_54 _) rfl
theorem d_Tx_isSmall_99 : decode b_Tx_isSmall 99 = .ok (.aload_n 0, 1) := dk_0 a_Tx_isSmall_99 (dko_42 _)
theorem d_Tx_isSmall_100 : decode b_Tx_isSmall 100 = .ok (.getfield 59, 3) := dk_U2 a_Tx_isSmall_100 (dko_180 _) rfl
theorem d_Tx_isSmall_103 : decode b_Tx_isSmall 103 = .ok (.iload_n 2, 1) := dk_0 a_Tx_isSmall_103 (dko_28 _)
theorem d_Tx_isSmall_104 : decode b_Tx_isSmall 104 = .ok (.dup2, 1) := dk_0 a_Tx_isSmall_104 (dko_92 _)
theorem d_Tx_isSmall_105 : decode b_Tx_isSmall 105 = .ok (.iaload, 1) := dk_0 a_Tx_isSmall_105 (dko_46 _)
theorem d_Tx_isSmall_106 : decode b_Tx_isSmall 106 = .ok (.aload_n 0, 1) := dk_0 a_Tx_isSmall_106 (dko_42 _)
theorem d_Tx_isSmall_107 : decode b_Tx_isSmall 107 = .ok (.getfield 59, 3) := dk_U2 a_Tx_isSmall_107 (dko_180 _) rfl
theorem d_Tx_isSmall_110 : decode b_Tx_isSmall 110 = .ok (.iload 5, 2) := dk_U1 a_Tx_isSmall_110 (dko_21 _) rfl
theorem d_Tx_isSmall_112 : decode b_Tx_isSmall 112 = .ok (.iaload, 1) := dk_0 a_Tx_isSmall_112 (dko_46 _)
theorem d_Tx_isSmall_113 : decode b_Tx_isSmall 113 = .ok (.iadd, 1) := dk_0 a_Tx_isSmall_113 (dko_96 _)
theorem d_Tx_isSmall_114 : decode b_Tx_isSmall 114 = .ok (.iastore, 1) := dk_0 a_Tx_isSmall_114 (dko_79 _)
theorem d_Tx_isSmall_115 : decode b_Tx_isSmall 115 = .ok (.aload_n 0, 1) := dk_0 a_Tx_isSmall_115 (dko_42 _)
theorem d_Tx_isSmall_116 : decode b_Tx_isSmall 116 = .ok (.getfield 62, 3) := dk_U2 a_Tx_isSmall_116 (dko_180 _) rfl
theorem d_Tx_isSmall_119 : decode b_Tx_isSmall 119 = .ok (.iload_n 2, 1) := dk_0 a_Tx_isSmall_119 (dko_28 _)
theorem d_Tx_isSmall_120 : decode b_Tx_isSmall 120 = .ok (.aload_n 0, 1) := dk_0 a_Tx_isSmall_120 (dko_42 _)
theorem d_Tx_isSmall_121 : decode b_Tx_isSmall 121 = .ok (.getfield 62, 3) := dk_U2 a_Tx_isSmall_121 (dko_180 _) rfl
theorem d_Tx_isSmall_124 : decode b_Tx_isSmall 124 = .ok (.iload 5, 2) := dk_U1 a_Tx_isSmall_124 (dko_21 _) rfl
theorem d_Tx_isSmall_126 : decode b_Tx_isSmall 126 = .ok (.iaload, 1) := dk_0 a_Tx_isSmall_126 (dko_46 _)
theorem d_Tx_isSmall_127 : decode b_Tx_isSmall 127 = .ok (.aload_n 0, 1) := dk_0 a_Tx_isSmall_127 (dko_42 _)
theorem d_Tx_isSmall_128 : decode b_Tx_isSmall 128 = .ok (.getfield 62, 3) := dk_U2 a_Tx_isSmall_128 (dko_180 _) rfl
theorem d_Tx_isSmall_131 : decode b_Tx_isSmall 131 = .ok (.iload_n 2, 1) := dk_0 a_Tx_isSmall_131 (dko_28 _)
theorem d_Tx_isSmall_132 : decode b_Tx_isSmall 132 = .ok (.iaload, 1) := dk_0 a_Tx_isSmall_132 (dko_46 _)
theorem d_Tx_isSmall_133 : decode b_Tx_isSmall 133 = .ok (.if_icmp .le 13, 3) := dk_S2 a_Tx_isSmall_133 (dko_164 _) (by decide +kernel)
theorem d_Tx_isSmall_136 : decode b_Tx_isSmall 136 = .ok (.aload_n 0, 1) := dk_0 a_Tx_isSmall_136 (dko_42 _)
theorem d_Tx_isSmall_137 : decode b_Tx_isSmall 137 = .ok (.getfield 62, 3) := dk_U2 a_Tx_isSmall_137 (dko_180 _) rfl
theorem d_Tx_isSmall_140 : decode b_Tx_isSmall 140 = .ok (.iload 5, 2) := dk_U1 a_Tx_isSmall_140 (dko_21 _) rfl
theorem d_Tx_isSmall_142 : decode b_Tx_isSmall 142 = .ok (.iaload, 1) := dk_0 a_Tx_isSmall_142 (dko_46 _)
theorem d_Tx_isSmall_143 : decode b_Tx_isSmall 143 = .ok (.goto 9, 3) := dk_S2 a_Tx_isSmall_143 (dko_167 _) (by decide +kernel)
theorem d_Tx_isSmall_146 : decode b_Tx_isSmall 146 = .ok (.aload_n 0, 1) := dk_0 a_Tx_isSmall_146 (dko_42 _)
theorem d_Tx_isSmall_147 : decode b_Tx_isSmall 147 = .ok (.getfield 62, 3) := dk_U2 a_Tx_isSmall_147 (dko_180 _) rfl
theorem d_Tx_isSmall_150 : decode b_Tx_isSmall 150 = .ok (.iload_n 2, 1) := dk_0 a_Tx_isSmall_150 (dko_28 _)
theorem d_Tx_isSmall_151 : decode b_Tx_isSmall 151 = .ok (.iaload, 1) := dk_0 a_Tx_isSmall_151 (dko_46 _)
theorem d_Tx_isSmall_152 : decode b_Tx_isSmall 152 = .ok (.iastore, 1) := dk_0 a_Tx_isSmall_152 (dko_79 _)
theorem d_Tx_isSmall_153 : decode b_Tx_isSmall 153 = .ok (.iinc 4 1, 3) := dk_US a_Tx_isSmall_153 (dko_132 _) (by decide +kernel)
theorem d_Tx_isSmall_156 : decode b_Tx_isSmall 156 = .ok (.goto (-99), 3) := dk_S2 a_Tx_isSmall_156 (dko_167 _) (by decide +kernel)
theorem d_Tx_isSmall_159 : decode b_Tx_isSmall 159 = .ok (.iload_n 3, 1) := dk_0 a_Tx_isSmall_159 (dko_29 _)
theorem d_Tx_isSmall_160 : decode b_Tx_isSmall 160 = .ok (.bipush 19, 2) := dk_S1 a_Tx_isSmall_160 (dko_16 _) (by decide +kernel)
theorem d_Tx_isSmall_162 : decode b_Tx_isSmall 162 = .ok (.if_icmp .ne 101, 3) := dk_S2 a_Tx_isSmall_162 (dko_160 _) (by decide +kernel)
theorem d_Tx_isSmall_165 : decode b_Tx_isSmall 165 = .ok (.aload_n 0, 1) := dk_0 a_Tx_isSmall_165 (dko_42 _)
theorem d_Tx_isSmall_166 : decode b_Tx_isSmall 166 = .ok (.getfield 53, 3) := dk_U2 a_Tx_isSmall_166 (dko_180 _) rfl
theorem d_Tx_isSmall_169 : decode b_Tx_isSmall 169 = .ok (.bipush 40, 2) := dk_S1 a_Tx_isSmall_169 (dko_16 _) (by decide +kernel)
theorem d_Tx_isSmall_171 : decode b_Tx_isSmall 171 = .ok (.iconst 1, 1) := dk_0 a_Tx_isSmall_171 (dko_4 _)
theorem d_Tx_isSmall_172 : decode b_Tx_isSmall 172 = .ok (.aload_n 0, 1) := dk_0 a_Tx_isSmall_172 (dko_42 _)
theorem d_Tx_isSmall_173 : decode b_Tx_isSmall 173 = .ok (.getfield 186, 3) := dk_U2 a_Tx_isSmall_173 (dko_180 _) rfl
theorem d_Tx_isSmall_176 : decode b_Tx_isSmall 176 = .ok (.isub, 1) := dk_0 a_Tx_isSmall_176 (dko_100 _)
theorem d_Tx_isSmall_177 : decode b_Tx_isSmall 177 = .ok (.imul, 1) := dk_0 a_Tx_isSmall_177 (dko_104 _)
theorem d_Tx_isSmall_178 : decode b_Tx_isSmall 178 = .ok (.aload_n 0, 1) := dk_0 a_Tx_isSmall_178 (dko_42 _)
theorem d_Tx_isSmall_179 : decode b_Tx_isSmall 179 = .ok (.getfield 19, 3) := dk_U2 a_Tx_isSmall_179 (dko_180 _) rfl
theorem d_Tx_isSmall_182 : decode b_Tx_isSmall 182 = .ok (.aload_n 0, 1) := dk_0 a_Tx_isSmall_182 (dko_42 _)
theorem d_Tx_isSmall_183 : decode b_Tx_isSmall 183 = .ok (.invokevirtual 195, 3) := dk_U2 a_Tx_isSmall_183 (dko_182 _) rfl
theorem d_Tx_isSmall_186 : decode b_Tx_isSmall 186 = .ok (.iload_n 2, 1) := dk_0 a_Tx_isSmall_186 (dko_28 _)
theorem d_Tx_isSmall_187 : decode b_Tx_isSmall 187 = .ok (.iadd, 1) := dk_0 a_Tx_isSmall_187 (dko_96 _)
theorem d_Tx_isSmall_188 : decode b_Tx_isSmall 188 = .ok (.laload, 1) := dk_0 a_Tx_isSmall_188 (dko_47 _)
theorem d_Tx_isSmall_189 : decode b_Tx_isSmall 189 = .ok (.l2i, 1) := dk_0 a_Tx_isSmall_189 (dko_136 _)
theorem d_Tx_isSmall_190 : decode b_Tx_isSmall 190 = .ok (.iadd, 1) := dk_0 a_Tx_isSmall_190 (dko_96 _)
theorem d_Tx_isSmall_191 : decode b_Tx_isSmall 191 = .ok (.iaload, 1) := dk_0 a_Tx_isSmall_191 (dko_46 _)
theorem d_Tx_isSmall_192 : decode b_Tx_isSmall 192 = .ok (.istore 4, 2) := dk_U1 a_Tx_isSmall_192 (dko_54 _) rfl
theorem d_Tx_isSmall_194 : decode b_Tx_isSmall 194 = .ok (.aload_n 0, 1) := dk_0 a_Tx_isSmall_194 (dko_42 _)
theorem d_Tx_isSmall_195 : decode b_Tx_isSmall 195 = .ok (.getfield 59, 3) := dk_U2 a_Tx_isSmall_195 (dko_180 _) rfl
theorem d_Tx_isSmall_198 : decode b_Tx_isSmall 198 = .ok (.iload_n 2, 1) := dk_0 a_Tx_isSmall_198 (dko_28 _)
theorem d_Tx_isSmall_199 : decode b_Tx_isSmall 199 = .ok (.dup2, 1) := dk_0 a_Tx_isSmall_199 (dko_92 _)
theorem d_Tx_isSmall_200 : decode b_Tx_isSmall 200 = .ok (.iaload, 1) := dk_0 a_Tx_isSmall_200 (dko_46 _)
theorem d_Tx_isSmall_201 : decode b_Tx_isSmall 201 = .ok (.aload_n 0, 1) := dk_0 a_Tx_isSmall_201 (dko_42 _)
theorem d_Tx_isSmall_202 : decode b_Tx_isSmall 202 = .ok (.getfield 59, 3) := dk_U2 a_Tx_isSmall_202 (dko_180 _) rfl
theorem d_Tx_isSmall_205 : decode b_Tx_isSmall 205 = .ok (.aload_n 0, 1) := dk_0 a_Tx_isSmall_205 (dko_42 _)
theorem d_Tx_isSmall_206 : decode b_Tx_isSmall 206 = .ok (.getfield 35, 3) := dk_U2 a_Tx_isSmall_206 (dko_180 _) rfl
theorem d_Tx_isSmall_209 : decode b_Tx_isSmall 209 = .ok (.aload_n 0, 1) := dk_0 a_Tx_isSmall_209 (dko_42 _)
theorem d_Tx_isSmall_210 : decode b_Tx_isSmall 210 = .ok (.invokevirtual 195, 3) := dk_U2 a_Tx_isSmall_210 (dko_182 _) rfl
theorem d_Tx_isSmall_213 : decode b_Tx_isSmall 213 = .ok (.aload_n 0, 1) := dk_0 a_Tx_isSmall_213 (dko_42 _)
theorem d_Tx_isSmall_214 : decode b_Tx_isSmall 214 = .ok (.getfield 29, 3) := dk_U2 a_Tx_isSmall_214 (dko_180 _) rfl
theorem d_Tx_isSmall_217 : decode b_Tx_isSmall 217 = .ok (.aload_n 0, 1) := dk_0 a_Tx_isSmall_217 (dko_42 _)
theorem d_Tx_isSmall_218 : decode b_Tx_isSmall 218 = .ok (.invokevirtual 195, 3) := dk_U2 a_Tx_isSmall_218 (dko_182 _) rfl
theorem d_Tx_isSmall_221 : decode b_Tx_isSmall 221 = .ok (.iload 4, 2) := dk_U1 a_Tx_isSmall_221 (dko_21 _) rfl
theorem d_Tx_isSmall_223 : decode b_Tx_isSmall 223 = .ok (.iadd, 1) := dk_0 a_Tx_isSmall_223 (dko_96 _)
theorem d_Tx_isSmall_224 : decode b_Tx_isSmall 224 = .ok (.iaload, 1) := dk_0 a_Tx_isSmall_224 (dko_46 _)
theorem d_Tx_isSmall_225 : decode b_Tx_isSmall 225 = .ok (.iadd, 1) := dk_0 a_Tx_isSmall_225 (dko_96 _)
theorem d_Tx_isSmall_226 : decode b_Tx_isSmall 226 = .ok (.iaload, 1) := dk_0 a_Tx_isSmall_226 (dko_46 _)
theorem d_Tx_isSmall_227 : decode b_Tx_isSmall 227 = .ok (.iaload, 1) := dk_0 a_Tx_isSmall_227 (dko_46 _)
theorem d_Tx_isSmall_228 : decode b_Tx_isSmall 228 = .ok (.iadd, 1) := dk_0 a_Tx_isSmall_228 (dko_96 _)
theorem d_Tx_isSmall_229 : decode b_Tx_isSmall 229 = .ok (.iastore, 1) := dk_0 a_Tx_isSmall_229 (dko_79 _)
theorem d_Tx_isSmall_230 : decode b_Tx_isSmall 230 = .ok (.aload_n 0, 1) := dk_0 a_Tx_isSmall_230 (dko_42 _)
theorem d_Tx_isSmall_231 : decode b_Tx_isSmall 231 = .ok (.getfield 62, 3) := dk_U2 a_Tx_isSmall_231 (dko_180 _) rfl
theorem d_Tx_isSmall_234 : decode b_Tx_isSmall 234 = .ok (.iload_n 2, 1) := dk_0 a_Tx_isSmall_234 (dko_28 _)
theorem d_Tx_isSmall_235 : decode b_Tx_isSmall 235 = .ok (.aload_n 0, 1) := dk_0 a_Tx_isSmall_235 (dko_42 _)
theorem d_Tx_isSmall_236 : decode b_Tx_isSmall 236 = .ok (.getfield 62, 3) := dk_U2 a_Tx_isSmall_236 (dko_180 _) rfl
theorem d_Tx_isSmall_239 : decode b_Tx_isSmall 239 = .ok (.aload_n 0, 1) := dk_0 a_Tx_isSmall_239 (dko_42 _)
theorem d_Tx_isSmall_240 : decode b_Tx_isSmall 240 = .ok (.getfield 35, 3) := dk_U2 a_Tx_isSmall_240 (dko_180 _) rfl
theorem d_Tx_isSmall_243 : decode b_Tx_isSmall 243 = .ok (.aload_n 0, 1) := dk_0 a_Tx_isSmall_243 (dko_42 _)
theorem d_Tx_isSmall_244 : decode b_Tx_isSmall 244 = .ok (.invokevirtual 195, 3) := dk_U2 a_Tx_isSmall_244 (dko_182 _) rfl
theorem d_Tx_isSmall_247 : decode b_Tx_isSmall 247 = .ok (.aload_n 0, 1) := dk_0 a_Tx_isSmall_247 (dko_42 _)
theorem d_Tx_isSmall_248 : decode b_Tx_isSmall 248 = .ok (.getfield 29, 3) := dk_U2 a_Tx_isSmall_248 (dko_180 _) rfl
theorem d_Tx_isSmall_251 : decode b_Tx_isSmall 251 = .ok (.aload_n 0, 1) := dk_0 a_Tx_isSmall_251 (dko_42 _)
theorem d_Tx_isSmall_252 : decode b_Tx_isSmall 252 = .ok (.invokevirtual 195, 3) := dk_U2 a_Tx_isSmall_252 (dko_182 _) rfl
theorem d_Tx_isSmall_255 : decode b_Tx_isSmall 255 = .ok (.iload 4, 2) := dk_U1 a_Tx_isSmall_255 (dko_21 _) rfl
theorem d_Tx_isSmall_257 : decode b_Tx_isSmall 257 = .ok (.iadd, 1) := dk_0 a_Tx_isSmall_257 (dko_96 _)
theorem d_Tx_isSmall_258 : decode b_Tx_isSmall 258 = .ok (.iaload, 1) := dk_0 a_Tx_isSmall_258 (dko_46 _)
theorem d_Tx_isSmall_259 : decode b_Tx_isSmall 259 = .ok (.iadd, 1) := dk_0 a_Tx_isSmall_259 (dko_96 _)
theorem d_Tx_isSmall_260 : decode b_Tx_isSmall 260 = .ok (.iaload, 1) := dk_0 a_Tx_isSmall_260 (dko_46 _)
theorem d_Tx_isSmall_261 : decode b_Tx_isSmall 261 = .ok (.iaload, 1) := dk_0 a_Tx_isSmall_261 (dko_46 _)
theorem d_Tx_isSmall_262 : decode b_Tx_isSmall 262 = .ok (.iastore, 1) := dk_0 a_Tx_isSmall_262 (dko_79 _)
theorem d_Tx_isSmall_263 : decode b_Tx_isSmall 263 = .ok (.aload_n 0, 1) := dk_0 a_Tx_isSmall_263 (dko_42 _)
theorem d_Tx_isSmall_264 : decode b_Tx_isSmall 264 = .ok (.getfield 62, 3) := dk_U2 a_Tx_isSmall_264 (dko_180 _) rfl
theorem d_Tx_isSmall_267 : decode b_Tx_isSmall 267 = .ok (.iload_n 2, 1) := dk_0 a_Tx_isSmall_267 (dko_28 _)
theorem d_Tx_isSmall_268 : decode b_Tx_isSmall 268 = .ok (.dup2, 1) := dk_0 a_Tx_isSmall_268 (dko_92 _)
theorem d_Tx_isSmall_269 : decode b_Tx_isSmall 269 = .ok (.iaload, 1) := dk_0 a_Tx_isSmall_269 (dko_46 _)
theorem d_Tx_isSmall_270 : decode b_Tx_isSmall 270 = .ok (.iload_n 3, 1) := dk_0 a_Tx_isSmall_270 (dko_29 _)
theorem d_Tx_isSmall_271 : decode b_Tx_isSmall 271 = .ok (.bipush 23, 2) := dk_S1 a_Tx_isSmall_271 (dko_16 _) (by decide +kernel)
theorem d_Tx_isSmall_273 : decode b_Tx_isSmall 273 = .ok (.if_icmp .ne 7, 3) := dk_S2 a_Tx_isSmall_273 (dko_160 _) (by decide +kernel)
theorem d_Tx_isSmall_276 : decode b_Tx_isSmall 276 = .ok (.iconst 1, 1) := dk_0 a_Tx_isSmall_276 (dko_4 _)
theorem d_Tx_isSmall_277 : decode b_Tx_isSmall 277 = .ok (.goto 4, 3) := dk_S2 a_Tx_isSmall_277 (dko_167 _) (by decide +kernel)
theorem d_Tx_isSmall_280 : decode b_Tx_isSmall 280 = .ok (.iconst 0, 1) := dk_0 a_Tx_isSmall_280 (dko_3 _)
theorem d_Tx_isSmall_281 : decode b_Tx_isSmall 281 = .ok (.iadd, 1) := dk_0 a_Tx_isSmall_281 (dko_96 _)
theorem d_Tx_isSmall_282 : decode b_Tx_isSmall 282 = .ok (.iastore, 1) := dk_0 a_Tx_isSmall_282 (dko_79 _)
theorem d_Tx_isSmall_283 : decode b_Tx_isSmall 283 = .ok (.aload_n 0, 1) := dk_0 a_Tx_isSmall_283 (dko_42 _)
theorem d_Tx_isSmall_284 : decode b_Tx_isSmall 284 = .ok (.getfield 59, 3) := dk_U2 a_Tx_isSmall_284 (dko_180 _) rfl
theorem d_Tx_isSmall_287 : decode b_Tx_isSmall 287 = .ok (.iload_n 2, 1) := dk_0 a_Tx_isSmall_287 (dko_28 _)
theorem d_Tx_isSmall_288 : decode b_Tx_isSmall 288 = .ok (.aload_n 0, 1) := dk_0 a_Tx_isSmall_288 (dko_42 _)
theorem d_Tx_isSmall_289 : decode b_Tx_isSmall 289 = .ok (.getfield 59, 3) := dk_U2 a_Tx_isSmall_289 (dko_180 _) rfl
theorem d_Tx_isSmall_292 : decode b_Tx_isSmall 292 = .ok (.iload_n 2, 1) := dk_0 a_Tx_isSmall_292 (dko_28 _)
theorem d_Tx_isSmall_293 : decode b_Tx_isSmall 293 = .ok (.iaload, 1) := dk_0 a_Tx_isSmall_293 (dko_46 _)
theorem d_Tx_isSmall_294 : decode b_Tx_isSmall 294 = .ok (.sipush 500, 3) := dk_S2 a_Tx_isSmall_294 (dko_17 _) (by decide +kernel)
theorem d_Tx_isSmall_297 : decode b_Tx_isSmall 297 = .ok (.if_icmp .le 9, 3) := dk_S2 a_Tx_isSmall_297 (dko_164 _) (by decide +kernel)
theorem d_Tx_isSmall_300 : decode b_Tx_isSmall 300 = .ok (.sipush 501, 3) := dk_S2 a_Tx_isSmall_300 (dko_17 _) (by decide +kernel)
theorem d_Tx_isSmall_303 : decode b_Tx_isSmall 303 = .ok (.goto 9, 3) := dk_S2 a_Tx_isSmall_303 (dko_167 _) (by decide +kernel)
theorem d_Tx_isSmall_306 : decode b_Tx_isSmall 306 = .ok (.aload_n 0, 1) := dk_0 a_Tx_isSmall_306 (dko_42 _)
theorem d_Tx_isSmall_307 : decode b_Tx_isSmall 307 = .ok (.getfield 59, 3) := dk_U2 a_Tx_isSmall_307 (dko_180 _) rfl
theorem d_Tx_isSmall_310 : decode b_Tx_isSmall 310 = .ok (.iload_n 2, 1) := dk_0 a_Tx_isSmall_310 (dko_28 _)
theorem d_Tx_isSmall_311 : decode b_Tx_isSmall 311 = .ok (.iaload, 1) := dk_0 a_Tx_isSmall_311 (dko_46 _)
theorem d_Tx_isSmall_312 : decode b_Tx_isSmall 312 = .ok (.iastore, 1) := dk_0 a_Tx_isSmall_312 (dko_79 _)
theorem d_Tx_isSmall_313 : decode b_Tx_isSmall 313 = .ok (.iinc 2 1, 3) := dk_US a_Tx_isSmall_313 (dko_132 _) (by decide +kernel)
theorem d_Tx_isSmall_316 : decode b_Tx_isSmall 316 = .ok (.goto (-312), 3) := dk_S2 a_Tx_isSmall_316 (dko_167 _) (by decide +kernel)
theorem d_Tx_isSmall_319 : decode b_Tx_isSmall 319 = .ok (.iconst 0, 1) := dk_0 a_Tx_isSmall_319 (dko_3 _)
theorem d_Tx_isSmall_320 : decode b_Tx_isSmall 320 = .ok (.istore_n 2, 1) := dk_0 a_Tx_isSmall_320 (dko_61 _)
theorem d_Tx_isSmall_321 : decode b_Tx_isSmall 321 = .ok (.iload_n 2, 1) := dk_0 a_Tx_isSmall_321 (dko_28 _)
theorem d_Tx_isSmall_322 : decode b_Tx_isSmall 322 = .ok (.aload_n 0, 1) := dk_0 a_Tx_isSmall_322 (dko_42 _)
theorem d_Tx_isSmall_323 : decode b_Tx_isSmall 323 = .ok (.getfield 281, 3) := dk_U2 a_Tx_isSmall_323 (dko_180 _) rfl
theorem d_Tx_isSmall_326 : decode b_Tx_isSmall 326 = .ok (.if_icmp .ge 74, 3) := dk_S2 a_Tx_isSmall_326 (dko_162 _) (by decide +kernel)
theorem d_Tx_isSmall_329 : decode b_Tx_isSmall 329 = .ok (.iload_n 1, 1) := dk_0 a_Tx_isSmall_329 (dko_27 _)
theorem d_Tx_isSmall_330 : decode b_Tx_isSmall 330 = .ok (.sipush 500, 3) := dk_S2 a_Tx_isSmall_330 (dko_17 _) (by decide +kernel)
theorem d_Tx_isSmall_333 : decode b_Tx_isSmall 333 = .ok (.if_icmp .gt 67, 3) := dk_S2 a_Tx_isSmall_333 (dko_163 _) (by decide +kernel)
theorem d_Tx_isSmall_336 : decode b_Tx_isSmall 336 = .ok (.aload_n 0, 1) := dk_0 a_Tx_isSmall_336 (dko_42 _)
theorem d_Tx_isSmall_337 : decode b_Tx_isSmall 337 = .ok (.getfield 38, 3) := dk_U2 a_Tx_isSmall_337 (dko_180 _) rfl
theorem d_Tx_isSmall_340 : decode b_Tx_isSmall 340 = .ok (.aload_n 0, 1) := dk_0 a_Tx_isSmall_340 (dko_42 _)
theorem d_Tx_isSmall_341 : decode b_Tx_isSmall 341 = .ok (.invokevirtual 195, 3) := dk_U2 a_Tx_isSmall_341 (dko_182 _) rfl
theorem d_Tx_isSmall_344 : decode b_Tx_isSmall 344 = .ok (.iload_n 2, 1) := dk_0 a_Tx_isSmall_344 (dko_28 _)
theorem d_Tx_isSmall_345 : decode b_Tx_isSmall 345 = .ok (.iadd, 1) := dk_0 a_Tx_isSmall_345 (dko_96 _)
theorem d_Tx_isSmall_346 : decode b_Tx_isSmall 346 = .ok (.iaload, 1) := dk_0 a_Tx_isSmall_346 (dko_46 _)
theorem d_Tx_isSmall_347 : decode b_Tx_isSmall 347 = .ok (.istore_n 3, 1) := dk_0 a_Tx_isSmall_347 (dko_62 _)
theorem d_Tx_isSmall_348 : decode b_Tx_isSmall 348 = .ok (.iload_n 1, 1) := dk_0 a_Tx_isSmall_348 (dko_27 _)
theorem d_Tx_isSmall_349 : decode b_Tx_isSmall 349 = .ok (.aload_n 0, 1) := dk_0 a_Tx_isSmall_349 (dko_42 _)
theorem d_Tx_isSmall_350 : decode b_Tx_isSmall 350 = .ok (.getfield 15, 3) := dk_U2 a_Tx_isSmall_350 (dko_180 _) rfl
theorem d_Tx_isSmall_353 : decode b_Tx_isSmall 353 = .ok (.aload_n 0, 1) := dk_0 a_Tx_isSmall_353 (dko_42 _)
theorem d_Tx_isSmall_354 : decode b_Tx_isSmall 354 = .ok (.invokevirtual 195, 3) := dk_U2 a_Tx_isSmall_354 (dko_182 _) rfl
theorem d_Tx_isSmall_357 : decode b_Tx_isSmall 357 = .ok (.iload_n 3, 1) := dk_0 a_Tx_isSmall_357 (dko_29 _)
theorem d_Tx_isSmall_358 : decode b_Tx_isSmall 358 = .ok (.iadd, 1) := dk_0 a_Tx_isSmall_358 (dko_96 _)
theorem d_Tx_isSmall_359 : decode b_Tx_isSmall 359 = .ok (.iaload, 1) := dk_0 a_Tx_isSmall_359 (dko_46 _)
theorem d_Tx_isSmall_360 : decode b_Tx_isSmall 360 = .ok (.bipush 24, 2) := dk_S1 a_Tx_isSmall_360 (dko_16 _) (by decide +kernel)
theorem d_Tx_isSmall_362 : decode b_Tx_isSmall 362 = .ok (.if_icmp .ne 7, 3) := dk_S2 a_Tx_isSmall_362 (dko_160 _) (by decide +kernel)
theorem d_Tx_isSmall_365 : decode b_Tx_isSmall 365 = .ok (.iconst 0, 1) := dk_0 a_Tx_isSmall_365 (dko_3 _)
theorem d_Tx_isSmall_366 : decode b_Tx_isSmall 366 = .ok (.goto 26, 3) := dk_S2 a_Tx_isSmall_366 (dko_167 _) (by decide +kernel)
theorem d_Tx_isSmall_369 : decode b_Tx_isSmall 369 = .ok (.aload_n 0, 1) := dk_0 a_Tx_isSmall_369 (dko_42 _)
theorem d_Tx_isSmall_370 : decode b_Tx_isSmall 370 = .ok (.getfield 62, 3) := dk_U2 a_Tx_isSmall_370 (dko_180 _) rfl
theorem d_Tx_isSmall_373 : decode b_Tx_isSmall 373 = .ok (.iload_n 3, 1) := dk_0 a_Tx_isSmall_373 (dko_29 _)
theorem d_Tx_isSmall_374 : decode b_Tx_isSmall 374 = .ok (.iaload, 1) := dk_0 a_Tx_isSmall_374 (dko_46 _)
theorem d_Tx_isSmall_375 : decode b_Tx_isSmall 375 = .ok (.bipush 40, 2) := dk_S1 a_Tx_isSmall_375 (dko_16 _) (by decide +kernel)
theorem d_Tx_isSmall_377 : decode b_Tx_isSmall 377 = .ok (.if_icmp .le 9, 3) := dk_S2 a_Tx_isSmall_377 (dko_164 _) (by decide +kernel)
theorem d_Tx_isSmall_380 : decode b_Tx_isSmall 380 = .ok (.sipush 501, 3) := dk_S2 a_Tx_isSmall_380 (dko_17 _) (by decide +kernel)
theorem d_Tx_isSmall_383 : decode b_Tx_isSmall 383 = .ok (.goto 9, 3) := dk_S2 a_Tx_isSmall_383 (dko_167 _) (by decide +kernel)
theorem d_Tx_isSmall_386 : decode b_Tx_isSmall 386 = .ok (.aload_n 0, 1) := dk_0 a_Tx_isSmall_386 (dko_42 _)
theorem d_Tx_isSmall_387 : decode b_Tx_isSmall 387 = .ok (.getfield 59, 3) := dk_U2 a_Tx_isSmall_387 (dko_180 _) rfl
theorem d_Tx_isSmall_390 : decode b_Tx_isSmall 390 = .ok (.iload_n 3, 1) := dk_0 a_Tx_isSmall_390 (dko_29 _)
theorem d_Tx_isSmall_391 : decode b_Tx_isSmall 391 = .ok (.iaload, 1) := dk_0 a_Tx_isSmall_391 (dko_46 _)
theorem d_Tx_isSmall_392 : decode b_Tx_isSmall 392 = .ok (.iadd, 1) := dk_0 a_Tx_isSmall_392 (dko_96 _)
theorem d_Tx_isSmall_393 : decode b_Tx_isSmall 393 = .ok (.istore_n 1, 1) := dk_0 a_Tx_isSmall_393 (dko_60 _)
theorem d_Tx_isSmall_394 : decode b_Tx_isSmall 394 = .ok (.iinc 2 1, 3) := dk_US a_Tx_isSmall_394 (dko_132 _) (by decide +kernel)
theorem d_Tx_isSmall_397 : decode b_Tx_isSmall 397 = .ok (.goto (-76), 3) := dk_S2 a_Tx_isSmall_397 (dko_167 _) (by decide +kernel)
theorem d_Tx_isSmall_400 : decode b_Tx_isSmall 400 = .ok (.aload_n 0, 1) := dk_0 a_Tx_isSmall_400 (dko_42 _)
theorem d_Tx_isSmall_401 : decode b_Tx_isSmall 401 = .ok (.iload_n 1, 1) := dk_0 a_Tx_isSmall_401 (dko_27 _)
theorem d_Tx_isSmall_402 : decode b_Tx_isSmall 402 = .ok (.sipush 500, 3) := dk_S2 a_Tx_isSmall_402 (dko_17 _) (by decide +kernel)
theorem d_Tx_isSmall_405 : decode b_Tx_isSmall 405 = .ok (.if_icmp .le 10, 3) := dk_S2 a_Tx_isSmall_405 (dko_164 _) (by decide +kernel)
theorem d_Tx_isSmall_408 : decode b_Tx_isSmall 408 = .ok (.aload_n 0, 1) := dk_0 a_Tx_isSmall_408 (dko_42 _)
theorem d_Tx_isSmall_409 : decode b_Tx_isSmall 409 = .ok (.getfield 65, 3) := dk_U2 a_Tx_isSmall_409 (dko_180 _) rfl
theorem d_Tx_isSmall_412 : decode b_Tx_isSmall 412 = .ok (.goto 7, 3) := dk_S2 a_Tx_isSmall_412 (dko_167 _) (by decide +kernel)
theorem d_Tx_isSmall_415 : decode b_Tx_isSmall 415 = .ok (.aload_n 0, 1) := dk_0 a_Tx_isSmall_415 (dko_42 _)
theorem d_Tx_isSmall_416 : decode b_Tx_isSmall 416 = .ok (.getfield 159, 3) := dk_U2 a_Tx_isSmall_416 (dko_180 _) rfl
theorem d_Tx_isSmall_419 : decode b_Tx_isSmall 419 = .ok (.putfield 159, 3) := dk_U2 a_Tx_isSmall_419 (dko_181 _) rfl
theorem d_Tx_isSmall_422 : decode b_Tx_isSmall 422 = .ok (.iload_n 1, 1) := dk_0 a_Tx_isSmall_422 (dko_27 _)
theorem d_Tx_isSmall_423 : decode b_Tx_isSmall 423 = .ok (.sipush 500, 3) := dk_S2 a_Tx_isSmall_423 (dko_17 _) (by decide +kernel)
theorem d_Tx_isSmall_426 : decode b_Tx_isSmall 426 = .ok (.if_icmp .gt 7, 3) := dk_S2 a_Tx_isSmall_426 (dko_163 _) (by decide +kernel)
theorem d_Tx_isSmall_429 : decode b_Tx_isSmall 429 = .ok (.iconst 1, 1) := dk_0 a_Tx_isSmall_429 (dko_4 _)
theorem d_Tx_isSmall_430 : decode b_Tx_isSmall 430 = .ok (.goto 4, 3) := dk_S2 a_Tx_isSmall_430 (dko_167 _) (by decide +kernel)
theorem d_Tx_isSmall_433 : decode b_Tx_isSmall 433 = .ok (.iconst 0, 1) := dk_0 a_Tx_isSmall_433 (dko_3 _)
theorem d_Tx_isSmall_434 : decode b_Tx_isSmall 434 = .ok (.ireturn, 1) := dk_0 a_Tx_isSmall_434 (dko_172 _)
set_option maxHeartbeats 4000000 in
set_option maxRecDepth 100000 in
theorem ok_Tx_isSmall (pc : Nat) : OpS mt mi_Tx_isSmall pc (cs_Tx_isSmall pc) := (os_n (os_n (os_n (os_n (os_n (os_n (os_n (os_l (so_iconst d_Tx_isSmall_0 (by decide))) (os_n (os_l (so_istore_n d_Tx_isSmall_1 rfl (by decide))) (os_l (so_iconst d_Tx_isSmall_2 (by decide))))) (os_n (os_n (os_l (so_istore_n d_Tx_isSmall_3 rfl (by decide))) (os_l (so_iload_n d_Tx_isSmall_4 rfl))) (os_n (os_l (so_aload_n d_Tx_isSmall_5 rfl)) (os_l (so_get (C := R_Tx) (T := F_Tx) (N := 39) (j := 13) in_Tx rfl (by decide) mw_1593 d_Tx_isSmall_6))))) (os_n (os_n (os_n (os_l (so_icge d_Tx_isSmall_9 (by decide))) (os_l (so_aload_n d_Tx_isSmall_12 rfl))) (os_n (os_l (so_get (C := R_Tx) (T := F_Tx) (N := 39) (j := 14) in_Tx rfl (by decide) mw_1594 d_Tx_isSmall_13)) (os_l (so_aload_n d_Tx_isSmall_16 rfl)))) (os_n (os_n (os_l (so_callV (iv := mi_Tx_base) rfl rfl rfl mw_2306 mw_2308 sl_132 mw_19 mw_2309 ⟨by decide +kernel, by decide +kernel, by decide +kernel⟩ (by decide) d_Tx_isSmall_17)) (os_l (so_iload_n d_Tx_isSmall_20 rfl))) (os_n (os_l (so_iadd d_Tx_isSmall_21)) (os_l (so_iaload d_Tx_isSmall_22)))))) (os_n (os_n (os_n (os_n (os_l (so_istore_n d_Tx_isSmall_23 rfl (by decide))) (os_l (so_aload_n d_Tx_isSmall_24 rfl))) (os_n (os_l (so_get (C := R_Tx) (T := F_Tx) (N := 39) (j := 36) in_Tx rfl (by decide) mw_1624 d_Tx_isSmall_25)) (os_l (so_iload_n d_Tx_isSmall_28 rfl)))) (os_n (os_n (os_l (so_iload_n d_Tx_isSmall_29 rfl)) (os_l (so_bipush d_Tx_isSmall_30 (by decide)))) (os_n (os_l (so_iclt d_Tx_isSmall_32 (by decide))) (os_l (so_iload_n d_Tx_isSmall_35 rfl))))) (os_n (os_n (os_n (os_l (so_bipush d_Tx_isSmall_36 (by decide))) (os_l (so_icgt d_Tx_isSmall_38 (by decide)))) (os_n (os_l (so_iconst d_Tx_isSmall_41 (by decide))) (os_l (so_goto d_Tx_isSmall_42 (by decide))))) (os_n (os_n (os_l (so_iconst d_Tx_isSmall_45 (by decide))) (os_l (so_iastore d_Tx_isSmall_46))) (os_n (os_l (so_aload_n d_Tx_isSmall_47 rfl)) (os_l (so_get (C := R_Tx) (T := F_Tx) (N := 39) (j := 37) in_Tx rfl (by decide) mw_1625 d_Tx_isSmall_48))))))) (os_n (os_n (os_n (os_n (os_n (os_l (so_iload_n d_Tx_isSmall_51 rfl)) (os_l (so_iconst d_Tx_isSmall_52 (by decide)))) (os_n (os_l (so_iastore d_Tx_isSmall_53)) (os_l (so_iconst d_Tx_isSmall_54 (by decide))))) (os_n (os_n (os_l (so_istore d_Tx_isSmall_55 (by decide))) (os_l (so_iload d_Tx_isSmall_57))) (os_n (os_l (so_aload_n d_Tx_isSmall_59 rfl)) (os_l (so_get (C := R_Tx) (T := F_Tx) (N := 39) (j := 19) in_Tx rfl (by decide) mw_1601 d_Tx_isSmall_60))))) (os_n (os_n (os_n (os_l (so_aload_n d_Tx_isSmall_63 rfl)) (os_l (so_callV (iv := mi_Tx_base) rfl rfl rfl mw_2306 mw_2308 sl_132 mw_19 mw_2309 ⟨by decide +kernel, by decide +kernel, by decide +kernel⟩ (by decide) d_Tx_isSmall_64))) (os_n (os_l (so_iload_n d_Tx_isSmall_67 rfl)) (os_l (so_iadd d_Tx_isSmall_68)))) (os_n (os_n (os_l (so_iaload d_Tx_isSmall_69)) (os_l (so_icge d_Tx_isSmall_70 (by decide)))) (os_n (os_l (so_aload_n d_Tx_isSmall_73 rfl)) (os_l (so_get (C := R_Tx) (T := F_Tx) (N := 39) (j := 20) in_Tx rfl (by decide) mw_1603 d_Tx_isSmall_74)))))) (os_n (os_n (os_n (os_n (os_l (so_aload_n d_Tx_isSmall_77 rfl)) (os_l (so_callV (iv := mi_Tx_base) rfl rfl rfl mw_2306 mw_2308 sl_132 mw_19 mw_2309 ⟨by decide +kernel, by decide +kernel, by decide +kernel⟩ (by decide) d_Tx_isSmall_78))) (os_n (os_l (so_aload_n d_Tx_isSmall_81 rfl)) (os_l (so_get (C := R_Tx) (T := F_Tx) (N := 39) (j := 18) in_Tx rfl (by decide) mw_1600 d_Tx_isSmall_82)))) (os_n (os_n (os_l (so_aload_n d_Tx_isSmall_85 rfl)) (os_l (so_callV (iv := mi_Tx_base) rfl rfl rfl mw_2306 mw_2308 sl_132 mw_19 mw_2309 ⟨by decide +kernel, by decide +kernel, by decide +kernel⟩ (by decide) d_Tx_isSmall_86))) (os_n (os_l (so_iload_n d_Tx_isSmall_89 rfl)) (os_l (so_iadd d_Tx_isSmall_90))))) (os_n (os_n (os_n (os_l (so_iaload d_Tx_isSmall_91)) (os_l (so_iadd d_Tx_isSmall_92))) (os_n (os_l (so_iload d_Tx_isSmall_93)) (os_l (so_iadd d_Tx_isSmall_95)))) (os_n (os_n (os_l (so_iaload d_Tx_isSmall_96)) (os_l (so_istore d_Tx_isSmall_97 (by decide)))) (os_n (os_l (so_aload_n d_Tx_isSmall_99 rfl)) (os_l (so_get (C := R_Tx) (T := F_Tx) (N := 39) (j := 36) in_Tx rfl (by decide) mw_1624 d_Tx_isSmall_100)))))))) (os_n (os_n (os_n (os_n (os_n (os_n (os_l (so_iload_n d_Tx_isSmall_103 rfl)) (os_l (so_dup2 d_Tx_isSmall_104))) (os_n (os_l (so_iaload d_Tx_isSmall_105)) (os_l (so_aload_n d_Tx_isSmall_106 rfl)))) (os_n (os_n (os_l (so_get (C := R_Tx) (T := F_Tx) (N := 39) (j := 36) in_Tx rfl (by decide) mw_1624 d_Tx_isSmall_107)) (os_l (so_iload d_Tx_isSmall_110))) (os_n (os_l (so_iaload d_Tx_isSmall_112)) (os_l (so_iadd d_Tx_isSmall_113))))) (os_n (os_n (os_n (os_l (so_iastore d_Tx_isSmall_114)) (os_l (so_aload_n d_Tx_isSmall_115 rfl))) (os_n (os_l (so_get (C := R_Tx) (T := F_Tx) (N := 39) (j := 37) in_Tx rfl (by decide) mw_1625 d_Tx_isSmall_116)) (os_l (so_iload_n d_Tx_isSmall_119 rfl)))) (os_n (os_n (os_l (so_aload_n d_Tx_isSmall_120 rfl)) (os_l (so_get (C := R_Tx) (T := F_Tx) (N := 39) (j := 37) in_Tx rfl (by decide) mw_1625 d_Tx_isSmall_121))) (os_n (os_l (so_iload d_Tx_isSmall_124)) (os_l (so_iaload d_Tx_isSmall_126)))))) (os_n (os_n (os_n (os_n (os_l (so_aload_n d_Tx_isSmall_127 rfl)) (os_l (so_get (C := R_Tx) (T := F_Tx) (N := 39) (j := 37) in_Tx rfl (by decide) mw_1625 d_Tx_isSmall_128))) (os_n (os_l (so_iload_n d_Tx_isSmall_131 rfl)) (os_l (so_iaload d_Tx_isSmall_132)))) (os_n (os_n (os_l (so_icle d_Tx_isSmall_133 (by decide))) (os_l (so_aload_n d_Tx_isSmall_136 rfl))) (os_n (os_l (so_get (C := R_Tx) (T := F_Tx) (N := 39) (j := 37) in_Tx rfl (by decide) mw_1625 d_Tx_isSmall_137)) (os_l (so_iload d_Tx_isSmall_140))))) (os_n (os_n (os_n (os_l (so_iaload d_Tx_isSmall_142)) (os_l (so_goto d_Tx_isSmall_143 (by decide)))) (os_n (os_l (so_aload_n d_Tx_isSmall_146 rfl)) (os_l (so_get (C := R_Tx) (T := F_Tx) (N := 39) (j := 37) in_Tx rfl (by decide) mw_1625 d_Tx_isSmall_147)))) (os_n (os_n (os_l (so_iload_n d_Tx_isSmall_150 rfl)) (os_l (so_iaload d_Tx_isSmall_151))) (os_n (os_l (so_iastore d_Tx_isSmall_152)) (os_l (so_iinc d_Tx_isSmall_153 (by decide) (by decide)))))))) (os_n (os_n (os_n (os_n (os_n (os_l (so_goto d_Tx_isSmall_156 (by decide))) (os_l (so_iload_n d_Tx_isSmall_159 rfl))) (os_n (os_l (so_bipush d_Tx_isSmall_160 (by decide))) (os_l (so_icne d_Tx_isSmall_162 (by decide))))) (os_n (os_n (os_l (so_aload_n d_Tx_isSmall_165 rfl)) (os_l (so_get (C := R_Tx) (T := F_Tx) (N := 39) (j := 29) in_Tx rfl (by decide) mw_1614 d_Tx_isSmall_166))) (os_n (os_l (so_bipush d_Tx_isSmall_169 (by decide))) (os_l (so_iconst d_Tx_isSmall_171 (by decide)))))) (os_n (os_n (os_n (os_l (so_aload_n d_Tx_isSmall_172 rfl)) (os_l (so_get (C := R_Tx) (T := F_Tx) (N := 39) (j := 12) in_Tx rfl (by decide) mw_1591 d_Tx_isSmall_173))) (os_n (os_l (so_isub d_Tx_isSmall_176)) (os_l (so_imul d_Tx_isSmall_177)))) (os_n (os_n (os_l (so_aload_n d_Tx_isSmall_178 rfl)) (os_l (so_get (C := R_Tx) (T := F_Tx) (N := 39) (j := 15) in_Tx rfl (by decide) mw_1596 d_Tx_isSmall_179))) (os_n (os_l (so_aload_n d_Tx_isSmall_182 rfl)) (os_l (so_callV (iv := mi_Tx_base) rfl rfl rfl mw_2306 mw_2308 sl_132 mw_19 mw_2309 ⟨by decide +kernel, by decide +kernel, by decide +kernel⟩ (by decide) d_Tx_isSmall_183)))))) (os_n (os_n (os_n (os_n (os_l (so_iload_n d_Tx_isSmall_186 rfl)) (os_l (so_iadd d_Tx_isSmall_187))) (os_n (os_l (so_laload d_Tx_isSmall_188)) (os_l (so_l2i d_Tx_isSmall_189)))) (os_n (os_n (os_l (so_iadd d_Tx_isSmall_190)) (os_l (so_iaload d_Tx_isSmall_191))) (os_n (os_l (so_istore d_Tx_isSmall_192 (by decide))) (os_l (so_aload_n d_Tx_isSmall_194 rfl))))) (os_n (os_n (os_n (os_l (so_get (C := R_Tx) (T := F_Tx) (N := 39) (j := 36) in_Tx rfl (by decide) mw_1624 d_Tx_isSmall_195)) (os_l (so_iload_n d_Tx_isSmall_198 rfl))) (os_n (os_l (so_dup2 d_Tx_isSmall_199)) (os_l (so_iaload d_Tx_isSmall_200)))) (os_n (os_n (os_l (so_aload_n d_Tx_isSmall_201 rfl)) (os_l (so_get (C := R_Tx) (T := F_Tx) (N := 39) (j := 36) in_Tx rfl (by decide) mw_1624 d_Tx_isSmall_202))) (os_n (os_l (so_aload_n d_Tx_isSmall_205 rfl)) (os_l (so_get (C := R_Tx) (T := F_Tx) (N := 39) (j := 20) in_Tx rfl (by decide) mw_1603 d_Tx_isSmall_206))))))))) (os_n (os_n (os_n (os_n (os_n (os_n (os_l (so_aload_n d_Tx_isSmall_209 rfl)) (os_n (os_l (so_callV (iv := mi_Tx_base) rfl rfl rfl mw_2306 mw_2308 sl_132 mw_19 mw_2309 ⟨by decide +kernel, by decide +kernel, by decide +kernel⟩ (by decide) d_Tx_isSmall_210)) (os_l (so_aload_n d_Tx_isSmall_213 rfl)))) (os_n (os_n (os_l (so_get (C := R_Tx) (T := F_Tx) (N := 39) (j := 18) in_Tx rfl (by decide) mw_1600 d_Tx_isSmall_214)) (os_l (so_aload_n d_Tx_isSmall_217 rfl))) (os_n (os_l (so_callV (iv := mi_Tx_base) rfl rfl rfl mw_2306 mw_2308 sl_132 mw_19 mw_2309 ⟨by decide +kernel, by decide +kernel, by decide +kernel⟩ (by decide) d_Tx_isSmall_218)) (os_l (so_iload d_Tx_isSmall_221))))) (os_n (os_n (os_n (os_l (so_iadd d_Tx_isSmall_223)) (os_l (so_iaload d_Tx_isSmall_224))) (os_n (os_l (so_iadd d_Tx_isSmall_225)) (os_l (so_iaload d_Tx_isSmall_226)))) (os_n (os_n (os_l (so_iaload d_Tx_isSmall_227)) (os_l (so_iadd d_Tx_isSmall_228))) (os_n (os_l (so_iastore d_Tx_isSmall_229)) (os_l (so_aload_n d_Tx_isSmall_230 rfl)))))) (os_n (os_n (os_n (os_n (os_l (so_get (C := R_Tx) (T := F_Tx) (N := 39) (j := 37) in_Tx rfl (by decide) mw_1625 d_Tx_isSmall_231)) (os_l (so_iload_n d_Tx_isSmall_234 rfl))) (os_n (os_l (so_aload_n d_Tx_isSmall_235 rfl)) (os_l (so_get (C := R_Tx) (T := F_Tx) (N := 39) (j := 37) in_Tx rfl (by decide) mw_1625 d_Tx_isSmall_236)))) (os_n (os_n (os_l (so_aload_n d_Tx_isSmall_239 rfl)) (os_l (so_get (C := R_Tx) (T := F_Tx) (N := 39) (j := 20) in_Tx rfl (by decide) mw_1603 d_Tx_isSmall_240))) (os_n (os_l (so_aload_n d_Tx_isSmall_243 rfl)) (os_l (so_callV (iv := mi_Tx_base) rfl rfl rfl mw_2306 mw_2308 sl_132 mw_19 mw_2309 ⟨by decide +kernel, by decide +kernel, by decide +kernel⟩ (by decide) d_Tx_isSmall_244))))) (os_n (os_n (os_n (os_l (so_aload_n d_Tx_isSmall_247 rfl)) (os_l (so_get (C := R_Tx) (T := F_Tx) (N := 39) (j := 18) in_Tx rfl (by decide) mw_1600 d_Tx_isSmall_248))) (os_n (os_l (so_aload_n d_Tx_isSmall_251 rfl)) (os_l (so_callV (iv := mi_Tx_base) rfl rfl rfl mw_2306 mw_2308 sl_132 mw_19 mw_2309 ⟨by decide +kernel, by decide +kernel, by decide +kernel⟩ (by decide) d_Tx_isSmall_252)))) (os_n (os_n (os_l (so_iload d_Tx_isSmall_255)) (os_l (so_iadd d_Tx_isSmall_257))) (os_n (os_l (so_iaload d_Tx_isSmall_258)) (os_l (so_iadd d_Tx_isSmall_259))))))) (os_n (os_n (os_n (os_n (os_n (os_l (so_iaload d_Tx_isSmall_260)) (os_l (so_iaload d_Tx_isSmall_261))) (os_n (os_l (so_iastore d_Tx_isSmall_262)) (os_l (so_aload_n d_Tx_isSmall_263 rfl)))) (os_n (os_n (os_l (so_get (C := R_Tx) (T := F_Tx) (N := 39) (j := 37) in_Tx rfl (by decide) mw_1625 d_Tx_isSmall_264)) (os_l (so_iload_n d_Tx_isSmall_267 rfl))) (os_n (os_l (so_dup2 d_Tx_isSmall_268)) (os_l (so_iaload d_Tx_isSmall_269))))) (os_n (os_n (os_n (os_l (so_iload_n d_Tx_isSmall_270 rfl)) (os_l (so_bipush d_Tx_isSmall_271 (by decide)))) (os_n (os_l (so_icne d_Tx_isSmall_273 (by decide))) (os_l (so_iconst d_Tx_isSmall_276 (by decide))))) (os_n (os_n (os_l (so_goto d_Tx_isSmall_277 (by decide))) (os_l (so_iconst d_Tx_isSmall_280 (by decide)))) (os_n (os_l (so_iadd d_Tx_isSmall_281)) (os_l (so_iastore d_Tx_isSmall_282)))))) (os_n (os_n (os_n (os_n (os_l (so_aload_n d_Tx_isSmall_283 rfl)) (os_l (so_get (C := R_Tx) (T := F_Tx) (N := 39) (j := 36) in_Tx rfl (by decide) mw_1624 d_Tx_isSmall_284))) (os_n (os_l (so_iload_n d_Tx_isSmall_287 rfl)) (os_l (so_aload_n d_Tx_isSmall_288 rfl)))) (os_n (os_n (os_l (so_get (C := R_Tx) (T := F_Tx) (N := 39) (j := 36) in_Tx rfl (by decide) mw_1624 d_Tx_isSmall_289)) (os_l (so_iload_n d_Tx_isSmall_292 rfl))) (os_n (os_l (so_iaload d_Tx_isSmall_293)) (os_l (so_sipush d_Tx_isSmall_294 (by decide)))))) (os_n (os_n (os_n (os_l (so_icle d_Tx_isSmall_297 (by decide))) (os_l (so_sipush d_Tx_isSmall_300 (by decide)))) (os_n (os_l (so_goto d_Tx_isSmall_303 (by decide))) (os_l (so_aload_n d_Tx_isSmall_306 rfl)))) (os_n (os_n (os_l (so_get (C := R_Tx) (T := F_Tx) (N := 39) (j := 36) in_Tx rfl (by decide) mw_1624 d_Tx_isSmall_307)) (os_l (so_iload_n d_Tx_isSmall_310 rfl))) (os_n (os_l (so_iaload d_Tx_isSmall_311)) (os_l (so_iastore d_Tx_isSmall_312)))))))) (os_n (os_n (os_n (os_n (os_n (os_n (os_l (so_iinc d_Tx_isSmall_313 (by decide) (by decide))) (os_l (so_goto d_Tx_isSmall_316 (by decide)))) (os_n (os_l (so_iconst d_Tx_isSmall_319 (by decide))) (os_l (so_istore_n d_Tx_isSmall_320 rfl (by decide))))) (os_n (os_n (os_l (so_iload_n d_Tx_isSmall_321 rfl)) (os_l (so_aload_n d_Tx_isSmall_322 rfl))) (os_n (os_l (so_get (C := R_Tx) (T := F_Tx) (N := 39) (j := 23) in_Tx rfl (by decide) mw_1607 d_Tx_isSmall_323)) (os_l (so_icge d_Tx_isSmall_326 (by decide)))))) (os_n (os_n (os_n (os_l (so_iload_n d_Tx_isSmall_329 rfl)) (os_l (so_sipush d_Tx_isSmall_330 (by decide)))) (os_n (os_l (so_icgt d_Tx_isSmall_333 (by decide))) (os_l (so_aload_n d_Tx_isSmall_336 rfl)))) (os_n (os_n (os_l (so_get (C := R_Tx) (T := F_Tx) (N := 39) (j := 22) in_Tx rfl (by decide) mw_1605 d_Tx_isSmall_337)) (os_l (so_aload_n d_Tx_isSmall_340 rfl))) (os_n (os_l (so_callV (iv := mi_Tx_base) rfl rfl rfl mw_2306 mw_2308 sl_132 mw_19 mw_2309 ⟨by decide +kernel, by decide +kernel, by decide +kernel⟩ (by decide) d_Tx_isSmall_341)) (os_l (so_iload_n d_Tx_isSmall_344 rfl)))))) (os_n (os_n (os_n (os_n (os_l (so_iadd d_Tx_isSmall_345)) (os_l (so_iaload d_Tx_isSmall_346))) (os_n (os_l (so_istore_n d_Tx_isSmall_347 rfl (by decide))) (os_l (so_iload_n d_Tx_isSmall_348 rfl)))) (os_n (os_n (os_l (so_aload_n d_Tx_isSmall_349 rfl)) (os_l (so_get (C := R_Tx) (T := F_Tx) (N := 39) (j := 14) in_Tx rfl (by decide) mw_1594 d_Tx_isSmall_350))) (os_n (os_l (so_aload_n d_Tx_isSmall_353 rfl)) (os_l (so_callV (iv := mi_Tx_base) rfl rfl rfl mw_2306 mw_2308 sl_132 mw_19 mw_2309 ⟨by decide +kernel, by decide +kernel, by decide +kernel⟩ (by decide) d_Tx_isSmall_354))))) (os_n (os_n (os_n (os_l (so_iload_n d_Tx_isSmall_357 rfl)) (os_l (so_iadd d_Tx_isSmall_358))) (os_n (os_l (so_iaload d_Tx_isSmall_359)) (os_l (so_bipush d_Tx_isSmall_360 (by decide))))) (os_n (os_n (os_l (so_icne d_Tx_isSmall_362 (by decide))) (os_l (so_iconst d_Tx_isSmall_365 (by decide)))) (os_n (os_l (so_goto d_Tx_isSmall_366 (by decide))) (os_l (so_aload_n d_Tx_isSmall_369 rfl))))))) (os_n (os_n (os_n (os_n (os_n (os_l (so_get (C := R_Tx) (T := F_Tx) (N := 39) (j := 37) in_Tx rfl (by decide) mw_1625 d_Tx_isSmall_370)) (os_l (so_iload_n d_Tx_isSmall_373 rfl))) (os_n (os_l (so_iaload d_Tx_isSmall_374)) (os_l (so_bipush d_Tx_isSmall_375 (by decide))))) (os_n (os_n (os_l (so_icle d_Tx_isSmall_377 (by decide))) (os_l (so_sipush d_Tx_isSmall_380 (by decide)))) (os_n (os_l (so_goto d_Tx_isSmall_383 (by decide))) (os_l (so_aload_n d_Tx_isSmall_386 rfl))))) (os_n (os_n (os_n (os_l (so_get (C := R_Tx) (T := F_Tx) (N := 39) (j := 36) in_Tx rfl (by decide) mw_1624 d_Tx_isSmall_387)) (os_l (so_iload_n d_Tx_isSmall_390 rfl))) (os_n (os_l (so_iaload d_Tx_isSmall_391)) (os_l (so_iadd d_Tx_isSmall_392)))) (os_n (os_n (os_l (so_istore_n d_Tx_isSmall_393 rfl (by decide))) (os_l (so_iinc d_Tx_isSmall_394 (by decide) (by decide)))) (os_n (os_l (so_goto d_Tx_isSmall_397 (by decide))) (os_l (so_aload_n d_Tx_isSmall_400 rfl)))))) (os_n (os_n (os_n (os_n (os_l (so_iload_n d_Tx_isSmall_401 rfl)) (os_l (so_sipush d_Tx_isSmall_402 (by decide)))) (os_n (os_l (so_icle d_Tx_isSmall_405 (by decide))) (os_l (so_aload_n d_Tx_isSmall_408 rfl)))) (os_n (os_n (os_l (so_get (C := R_Tx) (T := F_Tx) (N := 39) (j := 1) in_Tx rfl (by decide) mw_1580 d_Tx_isSmall_409)) (os_l (so_goto d_Tx_isSmall_412 (by decide)))) (os_n (os_l (so_aload_n d_Tx_isSmall_415 rfl)) (os_l (so_get (C := R_Tx) (T := F_Tx) (N := 39) (j := 10) in_Tx rfl (by decide) mw_1589 d_Tx_isSmall_416))))) (os_n (os_n (os_n (os_l (so_putI (C := R_Tx) (T := F_Tx) (N := 39) (j := 10) in_Tx t_Tx_ok n_Tx rfl (by decide) mw_1589 rfl (by decide +kernel) d_Tx_isSmall_419)) (os_l (so_iload_n d_Tx_isSmall_422 rfl))) (os_n (os_l (so_sipush d_Tx_isSmall_423 (by decide))) (os_l (so_icgt d_Tx_isSmall_426 (by decide))))) (os_n (os_n (os_l (so_iconst d_Tx_isSmall_429 (by decide))) (os_l (so_goto d_Tx_isSmall_430 (by decide)))) (os_n (os_l (so_iconst d_Tx_isSmall_433 (by decide))) (os_l (so_zreturn rfl d_Tx_isSmall_434))))))))))
abbrev t_Tx_read_132 : List UInt8 := 172 :: []
abbrev t_Tx_read_129 : List UInt8 := 180 :: 1 :: 46 :: t_Tx_read_132
abbrev t_Tx_read_128 : List UInt8 := 42 :: t_Tx_read_129
abbrev t_Tx_read_125 : List UInt8 := 181 :: 1 :: 46 :: t_Tx_read_128
abbrev t_Tx_read_122 : List UInt8 := 180 :: 1 :: 19 :: t_Tx_read_125
abbrev t_Tx_read_121 : List UInt8 := 42 :: t_Tx_read_122
abbrev t_Tx_read_120 : List UInt8 := 42 :: t_Tx_read_121
abbrev t_Tx_read_117 : List UInt8 := 181 :: 1 :: 43 :: t_Tx_read_120
abbrev t_Tx_read_114 : List UInt8 := 180 :: 0 :: 252 :: t_Tx_read_117
abbrev t_Tx_read_113 : List UInt8 := 42 :: t_Tx_read_114
abbrev t_Tx_read_112 : List UInt8 := 42 :: t_Tx_read_113
abbrev t_Tx_read_109 : List UInt8 := 181 :: 1 :: 40 :: t_Tx_read_112
abbrev t_Tx_read_106 : List UInt8 := 180 :: 1 :: 25 :: t_Tx_read_109
abbrev t_Tx_read_105 : List UInt8 := 42 :: t_Tx_read_106
abbrev t_Tx_read_104 : List UInt8 := 42 :: t_Tx_read_105
abbrev t_Tx_read_101 : List UInt8 := 181 :: 1 :: 37 :: t_Tx_read_104
abbrev t_Tx_read_98 : List UInt8 := 180 :: 0 :: 189 :: t_Tx_read_101
abbrev t_Tx_read_97 : List UInt8 := 42 :: t_Tx_read_98
abbrev t_Tx_read_96 : List UInt8 := 42 :: t_Tx_read_97
abbrev t_Tx_read_93 : List UInt8 := 181 :: 0 :: 186 :: t_Tx_read_96
abbrev t_Tx_read_92 : List UInt8 := 100 :: t_Tx_read_93
abbrev t_Tx_read_89 : List UInt8 := 180 :: 0 :: 186 :: t_Tx_read_92
abbrev t_Tx_read_88 : List UInt8 := 42 :: t_Tx_read_89
abbrev t_Tx_read_87 : List UInt8 := 4 :: t_Tx_read_88
abbrev t_Tx_read_86 : List UInt8 := 42 :: t_Tx_read_87
abbrev t_Tx_read_85 : List UInt8 := 172 :: t_Tx_read_86
abbrev t_Tx_read_84 : List UInt8 := 100 :: t_Tx_read_85
abbrev t_Tx_read_81 : List UInt8 := 180 :: 0 :: 159 :: t_Tx_read_84
abbrev t_Tx_read_80 : List UInt8 := 42 :: t_Tx_read_81
abbrev t_Tx_read_79 : List UInt8 := 2 :: t_Tx_read_80
abbrev t_Tx_read_76 : List UInt8 := 154 :: 0 :: 10 :: t_Tx_read_79
abbrev t_Tx_read_75 : List UInt8 := 27 :: t_Tx_read_76
abbrev t_Tx_read_72 : List UInt8 := 181 :: 0 :: 65 :: t_Tx_read_75
abbrev t_Tx_read_71 : List UInt8 := 3 :: t_Tx_read_72
abbrev t_Tx_read_70 : List UInt8 := 42 :: t_Tx_read_71
abbrev t_Tx_read_69 : List UInt8 := 60 :: t_Tx_read_70
abbrev t_Tx_read_68 : List UInt8 := 3 :: t_Tx_read_69
abbrev t_Tx_read_65 : List UInt8 := 167 :: 0 :: 4 :: t_Tx_read_68
abbrev t_Tx_read_64 : List UInt8 := 4 :: t_Tx_read_65
abbrev t_Tx_read_61 : List UInt8 := 153 :: 0 :: 7 :: t_Tx_read_64
abbrev t_Tx_read_58 : List UInt8 := 182 :: 1 :: 34 :: t_Tx_read_61
abbrev t_Tx_read_57 : List UInt8 := 42 :: t_Tx_read_58
abbrev t_Tx_read_54 : List UInt8 := 153 :: 0 :: 14 :: t_Tx_read_57
abbrev t_Tx_read_51 : List UInt8 := 182 :: 1 :: 31 :: t_Tx_read_54
abbrev t_Tx_read_50 : List UInt8 := 42 :: t_Tx_read_51
abbrev t_Tx_read_47 : List UInt8 := 181 :: 0 :: 159 :: t_Tx_read_50
abbrev t_Tx_read_46 : List UInt8 := 2 :: t_Tx_read_47
abbrev t_Tx_read_45 : List UInt8 := 42 :: t_Tx_read_46
abbrev t_Tx_read_42 : List UInt8 := 181 :: 1 :: 19 :: t_Tx_read_45
abbrev t_Tx_read_41 : List UInt8 := 3 :: t_Tx_read_42
abbrev t_Tx_read_40 : List UInt8 := 42 :: t_Tx_read_41
abbrev t_Tx_read_37 : List UInt8 := 181 :: 0 :: 201 :: t_Tx_read_40
abbrev t_Tx_read_36 : List UInt8 := 3 :: t_Tx_read_37
abbrev t_Tx_read_35 : List UInt8 := 42 :: t_Tx_read_36
abbrev t_Tx_read_32 : List UInt8 := 181 :: 0 :: 252 :: t_Tx_read_35
abbrev t_Tx_read_31 : List UInt8 := 3 :: t_Tx_read_32
abbrev t_Tx_read_30 : List UInt8 := 42 :: t_Tx_read_31
abbrev t_Tx_read_27 : List UInt8 := 181 :: 1 :: 25 :: t_Tx_read_30
abbrev t_Tx_read_26 : List UInt8 := 3 :: t_Tx_read_27
abbrev t_Tx_read_25 : List UInt8 := 42 :: t_Tx_read_26
abbrev t_Tx_read_22 : List UInt8 := 181 :: 0 :: 198 :: t_Tx_read_25
abbrev t_Tx_read_21 : List UInt8 := 3 :: t_Tx_read_22
abbrev t_Tx_read_20 : List UInt8 := 42 :: t_Tx_read_21
abbrev t_Tx_read_17 : List UInt8 := 181 :: 0 :: 189 :: t_Tx_read_20
abbrev t_Tx_read_16 : List UInt8 := 3 :: t_Tx_read_17
abbrev t_Tx_read_15 : List UInt8 := 42 :: t_Tx_read_16
abbrev t_Tx_read_12 : List UInt8 := 181 :: 0 :: 228 :: t_Tx_read_15
abbrev t_Tx_read_11 : List UInt8 := 3 :: t_Tx_read_12
abbrev t_Tx_read_10 : List UInt8 := 42 :: t_Tx_read_11
abbrev t_Tx_read_7 : List UInt8 := 181 :: 0 :: 140 :: t_Tx_read_10
abbrev t_Tx_read_6 : List UInt8 := 4 :: t_Tx_read_7
abbrev t_Tx_read_5 : List UInt8 := 42 :: t_Tx_read_6
abbrev t_Tx_read_2 : List UInt8 := 181 :: 0 :: 133 :: t_Tx_read_5
abbrev t_Tx_read_1 : List UInt8 := 3 :: t_Tx_read_2
abbrev t_Tx_read_0 : List UInt8 := 42 :: t_Tx_read_1
theorem a_Tx_read_0 : dk_at b_Tx_read 0 t_Tx_read_0 := dk_start (by decide +kernel)
theorem a_Tx_read_1 : dk_at b_Tx_read 1 t_Tx_read_1 := dk_go 1 a_Tx_read_0 rfl
theorem a_Tx_read_2 : dk_at b_Tx_read 2 t_Tx_read_2 := dk_go 1 a_Tx_read_1 rfl
theorem a_Tx_read_5 : dk_at b_Tx_read 5 t_Tx_read_5 := dk_go 3 a_Tx_read_2 rfl
theorem a_Tx_read_6 : dk_at b_Tx_read 6 t_Tx_read_6 := dk_go 1 a_Tx_read_5 rfl
theorem a_Tx_read_7 : dk_at b_Tx_read 7 t_Tx_read_7 := dk_go 1 a_Tx_read_6 rfl
theorem a_Tx_read_10 : dk_at b_Tx_read 10 t_Tx_read_10 := dk_go 3 a_Tx_read_7 rfl
theorem a_Tx_read_11 : dk_at b_Tx_read 11 t_Tx_read_11 := dk_go 1 a_Tx_read_10 rfl
theorem a_Tx_read_12 : dk_at b_Tx_read 12 t_Tx_read_12 := dk_go 1 a_Tx_read_11 rfl
theorem a_Tx_read_15 : dk_at b_Tx_read 15 t_Tx_read_15 := dk_go 3 a_Tx_read_12 rfl
theorem a_Tx_read_16 : dk_at b_Tx_read 16 t_Tx_read_16 := dk_go 1 a_Tx_read_15 rfl
theorem a_Tx_read_17 : dk_at b_Tx_read 17 t_Tx_read_17 := dk_go 1 a_Tx_read_16 rfl
theorem a_Tx_read_20 : dk_at b_Tx_read 20 t_Tx_read_20 := dk_go 3 a_Tx_read_17 rfl
theorem a_Tx_read_21 : dk_at b_Tx_read 21 t_Tx_read_21 := dk_go 1 a_Tx_read_20 rfl
theorem a_Tx_read_22 : dk_at b_Tx_read 22 t_Tx_read_22 := dk_go 1 a_Tx_read_21 rfl
theorem a_Tx_read_25 : dk_at b_Tx_read 25 t_Tx_read_25 := dk_go 3 a_Tx_read_22 rfl
theorem a_Tx_read_26 : dk_at b_Tx_read 26 t_Tx_read_26 := dk_go 1 a_Tx_read_25 rfl
theorem a_Tx_read_27 : dk_at b_Tx_read 27 t_Tx_read_27 := dk_go 1 a_Tx_read_26 rfl
theorem a_Tx_read_30 : dk_at b_Tx_read 30 t_Tx_read_30 := dk_go 3 a_Tx_read_27 rfl
theorem a_Tx_read_31 : dk_at b_Tx_read 31 t_Tx_read_31 := dk_go 1 a_Tx_read_30 rfl
theorem a_Tx_read_32 : dk_at b_Tx_read 32 t_Tx_read_32 := dk_go 1 a_Tx_read_31 rfl
theorem a_Tx_read_35 : dk_at b_Tx_read 35 t_Tx_read_35 := dk_go 3 a_Tx_read_32 rfl
theorem a_Tx_read_36 : dk_at b_Tx_read 36 t_Tx_read_36 := dk_go 1 a_Tx_read_35 rfl
theorem a_Tx_read_37 : dk_at b_Tx_read 37 t_Tx_read_37 := dk_go 1 a_Tx_read_36 rfl
theorem a_Tx_read_40 : dk_at b_Tx_read 40 t_Tx_read_40 := dk_go 3 a_Tx_read_37 rfl
theorem a_Tx_read_41 : dk_at b_Tx_read 41 t_Tx_read_41 := dk_go 1 a_Tx_read_40 rfl
theorem a_Tx_read_42 : dk_at b_Tx_read 42 t_Tx_read_42 := dk_go 1 a_Tx_read_41 rfl
theorem a_Tx_read_45 : dk_at b_Tx_read 45 t_Tx_read_45 := dk_go 3 a_Tx_read_42 rfl
theorem a_Tx_read_46 : dk_at b_Tx_read 46 t_Tx_read_46 := dk_go 1 a_Tx_read_45 rfl
theorem a_Tx_read_47 : dk_at b_Tx_read 47 t_Tx_read_47 := dk_go 1 a_Tx_read_46 rfl
theorem a_Tx_read_50 : dk_at b_Tx_read 50 t_Tx_read_50 := dk_go 3 a_Tx_read_47 rfl
theorem a_Tx_read_51 : dk_at b_Tx_read 51 t_Tx_read_51 := dk_go 1 a_Tx_read_50 rfl
theorem a_Tx_read_54 : dk_at b_Tx_read 54 t_Tx_read_54 := dk_go 3 a_Tx_read_51 rfl
theorem a_Tx_read_57 : dk_at b_Tx_read 57 t_Tx_read_57 := dk_go 3 a_Tx_read_54 rfl
theorem a_Tx_read_58 : dk_at b_Tx_read 58 t_Tx_read_58 := dk_go 1 a_Tx_read_57 rfl
theorem a_Tx_read_61 : dk_at b_Tx_read 61 t_Tx_read_61 := dk_go 3 a_Tx_read_58 rfl
theorem a_Tx_read_64 : dk_at b_Tx_read 64 t_Tx_read_64 := dk_go 3 a_Tx_read_61 rfl
theorem a_Tx_read_65 : dk_at b_Tx_read 65 t_Tx_read_65 := dk_go 1 a_Tx_read_64 rfl
theorem a_Tx_read_68 : dk_at b_Tx_read 68 t_Tx_read_68 := dk_go 3 a_Tx_read_65 rfl
theorem a_Tx_read_69 : dk_at b_Tx_read 69 t_Tx_read_69 := dk_go 1 a_Tx_read_68 rfl
theorem a_Tx_read_70 : dk_at b_Tx_read 70 t_Tx_read_70 := dk_go 1 a_Tx_read_69 rfl
theorem a_Tx_read_71 : dk_at b_Tx_read 71 t_Tx_read_71 := dk_go 1 a_Tx_read_70 rfl
theorem a_Tx_read_72 : dk_at b_Tx_read 72 t_Tx_read_72 := dk_go 1 a_Tx_read_71 rfl
theorem a_Tx_read_75 : dk_at b_Tx_read 75 t_Tx_read_75 := dk_go 3 a_Tx_read_72 rfl
theorem a_Tx_read_76 : dk_at b_Tx_read 76 t_Tx_read_76 := dk_go 1 a_Tx_read_75 rfl
theorem a_Tx_read_79 : dk_at b_Tx_read 79 t_Tx_read_79 := dk_go 3 a_Tx_read_76 rfl
theorem a_Tx_read_80 : dk_at b_Tx_read 80 t_Tx_read_80 := dk_go 1 a_Tx_read_79 rfl
theorem a_Tx_read_81 : dk_at b_Tx_read 81 t_Tx_read_81 := dk_go 1 a_Tx_read_80 rfl
theorem a_Tx_read_84 : dk_at b_Tx_read 84 t_Tx_read_84 := dk_go 3 a_Tx_read_81 rfl
theorem a_Tx_read_85 : dk_at b_Tx_read 85 t_Tx_read_85 := dk_go 1 a_Tx_read_84 rfl
theorem a_Tx_read_86 : dk_at b_Tx_read 86 t_Tx_read_86 := dk_go 1 a_Tx_read_85 rfl
theorem a_Tx_read_87 : dk_at b_Tx_read 87 t_Tx_read_87 := dk_go 1 a_Tx_read_86 rfl
theorem a_Tx_read_88 : dk_at b_Tx_read 88 t_Tx_read_88 := dk_go 1 a_Tx_read_87 rfl
theorem a_Tx_read_89 : dk_at b_Tx_read 89 t_Tx_read_89 := dk_go 1 a_Tx_read_88 rfl
theorem a_Tx_read_92 : dk_at b_Tx_read 92 t_Tx_read_92 := dk_go 3 a_Tx_read_89 rfl
theorem a_Tx_read_93 : dk_at b_Tx_read 93 t_Tx_read_93 := dk_go 1 a_Tx_read_92 rfl
theorem a_Tx_read_96 : dk_at b_Tx_read 96 t_Tx_read_96 := dk_go 3 a_Tx_read_93 rfl
theorem a_Tx_read_97 : dk_at b_Tx_read 97 t_Tx_read_97 := dk_go 1 a_Tx_read_96 rfl
theorem a_Tx_read_98 : dk_at b_Tx_read 98 t_Tx_read_98 := dk_go 1 a_Tx_read_97 rfl
theorem a_Tx_read_101 : dk_at b_Tx_read 101 t_Tx_read_101 := dk_go 3 a_Tx_read_98 rfl
theorem a_Tx_read_104 : dk_at b_Tx_read 104 t_Tx_read_104 := dk_go 3 a_Tx_read_101 rfl
theorem a_Tx_read_105 : dk_at b_Tx_read 105 t_Tx_read_105 := dk_go 1 a_Tx_read_104 rfl
theorem a_Tx_read_106 : dk_at b_Tx_read 106 t_Tx_read_106 := dk_go 1 a_Tx_read_105 rfl
theorem a_Tx_read_109 : dk_at b_Tx_read 109 t_Tx_read_109 := dk_go 3 a_Tx_read_106 rfl
theorem a_Tx_read_112 : dk_at b_Tx_read 112 t_Tx_read_112 := dk_go 3 a_Tx_read_109 rfl
theorem a_Tx_read_113 : dk_at b_Tx_read 113 t_Tx_read_113 := dk_go 1 a_Tx_read_112 rfl
theorem a_Tx_read_114 : dk_at b_Tx_read 114 t_Tx_read_114 := dk_go 1 a_Tx_read_113 rfl
theorem a_Tx_read_117 : dk_at b_Tx_read 117 t_Tx_read_117 := dk_go 3 a_Tx_read_114 rfl
theorem a_Tx_read_120 : dk_at b_Tx_read 120 t_Tx_read_120 := dk_go 3 a_Tx_read_117 rfl
theorem a_Tx_read_121 : dk_at b_Tx_read 121 t_Tx_read_121 := dk_go 1 a_Tx_read_120 rfl
theorem a_Tx_read_122 : dk_at b_Tx_read 122 t_Tx_read_122 := dk_go 1 a_Tx_read_121 rfl
theorem a_Tx_read_125 : dk_at b_Tx_read 125 t_Tx_read_125 := dk_go 3 a_Tx_read_122 rfl
theorem a_Tx_read_128 : dk_at b_Tx_read 128 t_Tx_read_128 := dk_go 3 a_Tx_read_125 rfl
theorem a_Tx_read_129 : dk_at b_Tx_read 129 t_Tx_read_129 := dk_go 1 a_Tx_read_128 rfl
theorem a_Tx_read_132 : dk_at b_Tx_read 132 t_Tx_read_132 := dk_go 3 a_Tx_read_129 rfl
theorem d_Tx_read_0 : decode b_Tx_read 0 = .ok (.aload_n 0, 1) := dk_0 a_Tx_read_0 (dko_42 _)
theorem d_Tx_read_1 : decode b_Tx_read 1 = .ok (.iconst 0, 1) := dk_0 a_Tx_read_1 (dko_3 _)
theorem d_Tx_read_2 : decode b_Tx_read 2 = .ok (.putfield 133, 3) := dk_U2 a_Tx_read_2 (dko_181 _) rfl
theorem d_Tx_read_5 : decode b_Tx_read 5 = .ok (.aload_n 0, 1) := dk_0 a_Tx_read_5 (dko_42 _)
theorem d_Tx_read_6 : decode b_Tx_read 6 = .ok (.iconst 1, 1) := dk_0 a_Tx_read_6 (dko_4 _)
theorem d_Tx_read_7 : decode b_Tx_read 7 = .ok (.putfield 140, 3) := dk_U2 a_Tx_read_7 (dko_181 _) rfl
theorem d_Tx_read_10 : decode b_Tx_read 10 = .ok (.aload_n 0, 1) := dk_0 a_Tx_read_10 (dko_42 _)
theorem d_Tx_read_11 : decode b_Tx_read 11 = .ok (.iconst 0, 1) := dk_0 a_Tx_read_11 (dko_3 _)
theorem d_Tx_read_12 : decode b_Tx_read 12 = .ok (.putfield 228, 3) := dk_U2 a_Tx_read_12 (dko_181 _) rfl
theorem d_Tx_read_15 : decode b_Tx_read 15 = .ok (.aload_n 0, 1) := dk_0 a_Tx_read_15 (dko_42 _)
theorem d_Tx_read_16 : decode b_Tx_read 16 = .ok (.iconst 0, 1) := dk_0 a_Tx_read_16 (dko_3 _)
theorem d_Tx_read_17 : decode b_Tx_read 17 = .ok (.putfield 189, 3) := dk_U2 a_Tx_read_17 (dko_181 _) rfl
theorem d_Tx_read_20 : decode b_Tx_read 20 = .ok (.aload_n 0, 1) := dk_0 a_Tx_read_20 (dko_42 _)
theorem d_Tx_read_21 : decode b_Tx_read 21 = .ok (.iconst 0, 1) := dk_0 a_Tx_read_21 (dko_3 _)
theorem d_Tx_read_22 : decode b_Tx_read 22 = .ok (.putfield 198, 3) := dk_U2 a_Tx_read_22 (dko_181 _) rfl
theorem d_Tx_read_25 : decode b_Tx_read 25 = .ok (.aload_n 0, 1) := dk_0 a_Tx_read_25 (dko_42 _)
theorem d_Tx_read_26 : decode b_Tx_read 26 = .ok (.iconst 0, 1) := dk_0 a_Tx_read_26 (dko_3 _)
theorem d_Tx_read_27 : decode b_Tx_read 27 = .ok (.putfield 281, 3) := dk_U2 a_Tx_read_27 (dko_181 _) rfl
theorem d_Tx_read_30 : decode b_Tx_read 30 = .ok (.aload_n 0, 1) := dk_0 a_Tx_read_30 (dko_42 _)
theorem d_Tx_read_31 : decode b_Tx_read 31 = .ok (.iconst 0, 1) := dk_0 a_Tx_read_31 (dko_3 _)
theorem d_Tx_read_32 : decode b_Tx_read 32 = .ok (.putfield 252, 3) := dk_U2 a_Tx_read_32 (dko_181 _) rfl
theorem d_Tx_read_35 : decode b_Tx_read 35 = .ok (.aload_n 0, 1) := dk_0 a_Tx_read_35 (dko_42 _)
theorem d_Tx_read_36 : decode b_Tx_read 36 = .ok (.iconst 0, 1) := dk_0 a_Tx_read_36 (dko_3 _)
theorem d_Tx_read_37 : decode b_Tx_read 37 = .ok (.putfield 201, 3) := dk_U2 a_Tx_read_37 (dko_181 _) rfl
theorem d_Tx_read_40 : decode b_Tx_read 40 = .ok (.aload_n 0, 1) := dk_0 a_Tx_read_40 (dko_42 _)
theorem d_Tx_read_41 : decode b_Tx_read 41 = .ok (.iconst 0, 1) := dk_0 a_Tx_read_41 (dko_3 _)
theorem d_Tx_read_42 : decode b_Tx_read 42 = .ok (.putfield 275, 3) := dk_U2 a_Tx_read_42 (dko_181 _) rfl
theorem d_Tx_read_45 : decode b_Tx_read 45 = .ok (.aload_n 0, 1) := dk_0 a_Tx_read_45 (dko_42 _)
theorem d_Tx_read_46 : decode b_Tx_read 46 = .ok (.iconst (-1), 1) := dk_0 a_Tx_read_46 (dko_2 _)
theorem d_Tx_read_47 : decode b_Tx_read 47 = .ok (.putfield 159, 3) := dk_U2 a_Tx_read_47 (dko_181 _) rfl
theorem d_Tx_read_50 : decode b_Tx_read 50 = .ok (.aload_n 0, 1) := dk_0 a_Tx_read_50 (dko_42 _)
theorem d_Tx_read_51 : decode b_Tx_read 51 = .ok (.invokevirtual 287, 3) := dk_U2 a_Tx_read_51 (dko_182 _) rfl
theorem d_Tx_read_54 : decode b_Tx_read 54 = .ok (.ifCond .eq 14, 3) := dk_S2 a_Tx_read_54 (dko_153 _) (by decide +kernel)
theorem d_Tx_read_57 : decode b_Tx_read 57 = .ok (.aload_n 0, 1) := dk_0 a_Tx_read_57 (dko_42 _)
theorem d_Tx_read_58 : decode b_Tx_read 58 = .ok (.invokevirtual 290, 3) := dk_U2 a_Tx_read_58 (dko_182 _) rfl
theorem d_Tx_read_61 : decode b_Tx_read 61 = .ok (.ifCond .eq 7, 3) := dk_S2 a_Tx_read_61 (dko_153 _) (by decide +kernel)
theorem d_Tx_read_64 : decode b_Tx_read 64 = .ok (.iconst 1, 1) := dk_0 a_Tx_read_64 (dko_4 _)
theorem d_Tx_read_65 : decode b_Tx_read 65 = .ok (.goto 4, 3) := dk_S2 a_Tx_read_65 (dko_167 _) (by decide +kernel)
theorem d_Tx_read_68 : decode b_Tx_read 68 = .ok (.iconst 0, 1) := dk_0 a_Tx_read_68 (dko_3 _)
theorem d_Tx_read_69 : decode b_Tx_read 69 = .ok (.istore_n 1, 1) := dk_0 a_Tx_read_69 (dko_60 _)
theorem d_Tx_read_70 : decode b_Tx_read 70 = .ok (.aload_n 0, 1) := dk_0 a_Tx_read_70 (dko_42 _)
theorem d_Tx_read_71 : decode b_Tx_read 71 = .ok (.iconst 0, 1) := dk_0 a_Tx_read_71 (dko_3 _)
theorem d_Tx_read_72 : decode b_Tx_read 72 = .ok (.putfield 65, 3) := dk_U2 a_Tx_read_72 (dko_181 _) rfl
theorem d_Tx_read_75 : decode b_Tx_read 75 = .ok (.iload_n 1, 1) := dk_0 a_Tx_read_75 (dko_27 _)
theorem d_Tx_read_76 : decode b_Tx_read 76 = .ok (.ifCond .ne 10, 3) := dk_S2 a_Tx_read_76 (dko_154 _) (by decide +kernel)
theorem d_Tx_read_79 : decode b_Tx_read 79 = .ok (.iconst (-1), 1) := dk_0 a_Tx_read_79 (dko_2 _)
theorem d_Tx_read_80 : decode b_Tx_read 80 = .ok (.aload_n 0, 1) := dk_0 a_Tx_read_80 (dko_42 _)
theorem d_Tx_read_81 : decode b_Tx_read 81 = .ok (.getfield 159, 3) := dk_U2 a_Tx_read_81 (dko_180 _) rfl
theorem d_Tx_read_84 : decode b_Tx_read 84 = .ok (.isub, 1) := dk_0 a_Tx_read_84 (dko_100 _)
theorem d_Tx_read_85 : decode b_Tx_read 85 = .ok (.ireturn, 1) := dk_0 a_Tx_read_85 (dko_172 _)
theorem d_Tx_read_86 : decode b_Tx_read 86 = .ok (.aload_n 0, 1) := dk_0 a_Tx_read_86 (dko_42 _)
theorem d_Tx_read_87 : decode b_Tx_read 87 = .ok (.iconst 1, 1) := dk_0 a_Tx_read_87 (dko_4 _)
theorem d_Tx_read_88 : decode b_Tx_read 88 = .ok (.aload_n 0, 1) := dk_0 a_Tx_read_88 (dko_42 _)
theorem d_Tx_read_89 : decode b_Tx_read 89 = .ok (.getfield 186, 3) := dk_U2 a_Tx_read_89 (dko_180 _) rfl
theorem d_Tx_read_92 : decode b_Tx_read 92 = .ok (.isub, 1) := dk_0 a_Tx_read_92 (dko_100 _)
theorem d_Tx_read_93 : decode b_Tx_read 93 = .ok (.putfield 186, 3) := dk_U2 a_Tx_read_93 (dko_181 _) rfl
theorem d_Tx_read_96 : decode b_Tx_read 96 = .ok (.aload_n 0, 1) := dk_0 a_Tx_read_96 (dko_42 _)
theorem d_Tx_read_97 : decode b_Tx_read 97 = .ok (.aload_n 0, 1) := dk_0 a_Tx_read_97 (dko_42 _)
theorem d_Tx_read_98 : decode b_Tx_read 98 = .ok (.getfield 189, 3) := dk_U2 a_Tx_read_98 (dko_180 _) rfl
theorem d_Tx_read_101 : decode b_Tx_read 101 = .ok (.putfield 293, 3) := dk_U2 a_Tx_read_101 (dko_181 _) rfl
theorem d_Tx_read_104 : decode b_Tx_read 104 = .ok (.aload_n 0, 1) := dk_0 a_Tx_read_104 (dko_42 _)
theorem d_Tx_read_105 : decode b_Tx_read 105 = .ok (.aload_n 0, 1) := dk_0 a_Tx_read_105 (dko_42 _)
theorem d_Tx_read_106 : decode b_Tx_read 106 = .ok (.getfield 281, 3) := dk_U2 a_Tx_read_106 (dko_180 _) rfl
theorem d_Tx_read_109 : decode b_Tx_read 109 = .ok (.putfield 296, 3) := dk_U2 a_Tx_read_109 (dko_181 _) rfl
theorem d_Tx_read_112 : decode b_Tx_read 112 = .ok (.aload_n 0, 1) := dk_0 a_Tx_read_112 (dko_42 _)
theorem d_Tx_read_113 : decode b_Tx_read 113 = .ok (.aload_n 0, 1) := dk_0 a_Tx_read_113 (dko_42 _)
theorem d_Tx_read_114 : decode b_Tx_read 114 = .ok (.getfield 252, 3) := dk_U2 a_Tx_read_114 (dko_180 _) rfl
theorem d_Tx_read_117 : decode b_Tx_read 117 = .ok (.putfield 299, 3) := dk_U2 a_Tx_read_117 (dko_181 _) rfl
theorem d_Tx_read_120 : decode b_Tx_read 120 = .ok (.aload_n 0, 1) := dk_0 a_Tx_read_120 (dko_42 _)
theorem d_Tx_read_121 : decode b_Tx_read 121 = .ok (.aload_n 0, 1) := dk_0 a_Tx_read_121 (dko_42 _)
theorem d_Tx_read_122 : decode b_Tx_read 122 = .ok (.getfield 275, 3) := dk_U2 a_Tx_read_122 (dko_180 _) rfl
theorem d_Tx_read_125 : decode b_Tx_read 125 = .ok (.putfield 302, 3) := dk_U2 a_Tx_read_125 (dko_181 _) rfl
theorem d_Tx_read_128 : decode b_Tx_read 128 = .ok (.aload_n 0, 1) := dk_0 a_Tx_read_128 (dko_42 _)
theorem d_Tx_read_129 : decode b_Tx_read 129 = .ok (.getfield 302, 3) := dk_U2 a_Tx_read_129 (dko_180 _) rfl
theorem d_Tx_read_132 : decode b_Tx_read 132 = .ok (.ireturn, 1) := dk_0 a_Tx_read_132 (dko_172 _)
set_option maxHeartbeats 4000000 in
set_option maxRecDepth 100000 in
theorem ok_Tx_read (pc : Nat) : OpS mt mi_Tx_read pc (cs_Tx_read pc) := (os_n (os_n (os_n (os_n (os_n (os_n (os_l (so_aload_n d_Tx_read_0 rfl)) (os_l (so_iconst d_Tx_read_1 (by decide)))) (os_n (os_l (so_putI (C := R_Tx) (T := F_Tx) (N := 39) (j := 2) in_Tx t_Tx_ok n_Tx rfl (by decide) mw_1581 rfl (by decide +kernel) d_Tx_read_2)) (os_l (so_aload_n d_Tx_read_5 rfl)))) (os_n (os_n (os_l (so_iconst d_Tx_read_6 (by decide))) (os_l (so_putI (C := R_Tx) (T := F_Tx) (N := 39) (j := 3) in_Tx t_Tx_ok n_Tx rfl (by decide) mw_1582 rfl (by decide +kernel) d_Tx_read_7))) (os_n (os_l (so_aload_n d_Tx_read_10 rfl)) (os_n (os_l (so_iconst d_Tx_read_11 (by decide))) (os_l (so_putI (C := R_Tx) (T := F_Tx) (N := 39) (j := 11) in_Tx t_Tx_ok n_Tx rfl (by decide) mw_1590 rfl (by decide +kernel) d_Tx_read_12)))))) (os_n (os_n (os_n (os_l (so_aload_n d_Tx_read_15 rfl)) (os_l (so_iconst d_Tx_read_16 (by decide)))) (os_n (os_l (so_putI (C := R_Tx) (T := F_Tx) (N := 39) (j := 13) in_Tx t_Tx_ok n_Tx rfl (by decide) mw_1593 rfl (by decide +kernel) d_Tx_read_17)) (os_l (so_aload_n d_Tx_read_20 rfl)))) (os_n (os_n (os_l (so_iconst d_Tx_read_21 (by decide))) (os_l (so_putI (C := R_Tx) (T := F_Tx) (N := 39) (j := 21) in_Tx t_Tx_ok n_Tx rfl (by decide) mw_1604 rfl (by decide +kernel) d_Tx_read_22))) (os_n (os_l (so_aload_n d_Tx_read_25 rfl)) (os_n (os_l (so_iconst d_Tx_read_26 (by decide))) (os_l (so_putI (C := R_Tx) (T := F_Tx) (N := 39) (j := 23) in_Tx t_Tx_ok n_Tx rfl (by decide) mw_1607 rfl (by decide +kernel) d_Tx_read_27))))))) (os_n (os_n (os_n (os_n (os_l (so_aload_n d_Tx_read_30 rfl)) (os_l (so_iconst d_Tx_read_31 (by decide)))) (os_n (os_l (so_putI (C := R_Tx) (T := F_Tx) (N := 39) (j := 24) in_Tx t_Tx_ok n_Tx rfl (by decide) mw_1608 rfl (by decide +kernel) d_Tx_read_32)) (os_l (so_aload_n d_Tx_read_35 rfl)))) (os_n (os_n (os_l (so_iconst d_Tx_read_36 (by decide))) (os_l (so_putI (C := R_Tx) (T := F_Tx) (N := 39) (j := 35) in_Tx t_Tx_ok n_Tx rfl (by decide) mw_1623 rfl (by decide +kernel) d_Tx_read_37))) (os_n (os_l (so_aload_n d_Tx_read_40 rfl)) (os_n (os_l (so_iconst d_Tx_read_41 (by decide))) (os_l (so_putI (C := R_Tx) (T := F_Tx) (N := 39) (j := 38) in_Tx t_Tx_ok n_Tx rfl (by decide) mw_1626 rfl (by decide +kernel) d_Tx_read_42)))))) (os_n (os_n (os_n (os_l (so_aload_n d_Tx_read_45 rfl)) (os_l (so_iconst d_Tx_read_46 (by decide)))) (os_n (os_l (so_putI (C := R_Tx) (T := F_Tx) (N := 39) (j := 10) in_Tx t_Tx_ok n_Tx rfl (by decide) mw_1589 rfl (by decide +kernel) d_Tx_read_47)) (os_n (os_l (so_aload_n d_Tx_read_50 rfl)) (os_l (so_callV (iv := mi_Tx_program) rfl rfl rfl mw_2178 mw_2180 sl_110 mw_19 mw_2181 ⟨by decide +kernel, by decide +kernel, by decide +kernel⟩ (by decide) d_Tx_read_51))))) (os_n (os_n (os_l (so_ifeq d_Tx_read_54 (by decide))) (os_l (so_aload_n d_Tx_read_57 rfl))) (os_n (os_l (so_callV (iv := mi_Tx_isSmall) rfl rfl rfl mw_2331 mw_2333 sl_138 mw_19 mw_2334 ⟨by decide +kernel, by decide +kernel, by decide +kernel⟩ (by decide) d_Tx_read_58)) (os_n (os_l (so_ifeq d_Tx_read_61 (by decide))) (os_l (so_iconst d_Tx_read_64 (by decide))))))))) (os_n (os_n (os_n (os_n (os_n (os_l (so_goto d_Tx_read_65 (by decide))) (os_l (so_iconst d_Tx_read_68 (by decide)))) (os_n (os_l (so_istore_n d_Tx_read_69 rfl (by decide))) (os_l (so_aload_n d_Tx_read_70 rfl)))) (os_n (os_n (os_l (so_iconst d_Tx_read_71 (by decide))) (os_l (so_putI (C := R_Tx) (T := F_Tx) (N := 39) (j := 1) in_Tx t_Tx_ok n_Tx rfl (by decide) mw_1580 rfl (by decide +kernel) d_Tx_read_72))) (os_n (os_l (so_iload_n d_Tx_read_75 rfl)) (os_n (os_l (so_ifne d_Tx_read_76 (by decide))) (os_l (so_iconst d_Tx_read_79 (by decide))))))) (os_n (os_n (os_n (os_l (so_aload_n d_Tx_read_80 rfl)) (os_l (so_get (C := R_Tx) (T := F_Tx) (N := 39) (j := 10) in_Tx rfl (by decide) mw_1589 d_Tx_read_81))) (os_n (os_l (so_isub d_Tx_read_84)) (os_n (os_l (so_ireturn rfl d_Tx_read_85)) (os_l (so_aload_n d_Tx_read_86 rfl))))) (os_n (os_n (os_l (so_iconst d_Tx_read_87 (by decide))) (os_l (so_aload_n d_Tx_read_88 rfl))) (os_n (os_l (so_get (C := R_Tx) (T := F_Tx) (N := 39) (j := 12) in_Tx rfl (by decide) mw_1591 d_Tx_read_89)) (os_n (os_l (so_isub d_Tx_read_92)) (os_l (so_putI (C := R_Tx) (T := F_Tx) (N := 39) (j := 12) in_Tx t_Tx_ok n_Tx rfl (by decide) mw_1591 rfl (by decide +kernel) d_Tx_read_93))))))) (os_n (os_n (os_n (os_n (os_l (so_aload_n d_Tx_read_96 rfl)) (os_l (so_aload_n d_Tx_read_97 rfl))) (os_n (os_l (so_get (C := R_Tx) (T := F_Tx) (N := 39) (j := 13) in_Tx rfl (by decide) mw_1593 d_Tx_read_98)) (os_l (so_putI (C := R_Tx) (T := F_Tx) (N := 39) (j := 30) in_Tx t_Tx_ok n_Tx rfl (by decide) mw_1616 rfl (by decide +kernel) d_Tx_read_101)))) (os_n (os_n (os_l (so_aload_n d_Tx_read_104 rfl)) (os_l (so_aload_n d_Tx_read_105 rfl))) (os_n (os_l (so_get (C := R_Tx) (T := F_Tx) (N := 39) (j := 23) in_Tx rfl (by decide) mw_1607 d_Tx_read_106)) (os_n (os_l (so_putI (C := R_Tx) (T := F_Tx) (N := 39) (j := 31) in_Tx t_Tx_ok n_Tx rfl (by decide) mw_1617 rfl (by decide +kernel) d_Tx_read_109)) (os_l (so_aload_n d_Tx_read_112 rfl)))))) (os_n (os_n (os_n (os_l (so_aload_n d_Tx_read_113 rfl)) (os_l (so_get (C := R_Tx) (T := F_Tx) (N := 39) (j := 24) in_Tx rfl (by decide) mw_1608 d_Tx_read_114))) (os_n (os_l (so_putI (C := R_Tx) (T := F_Tx) (N := 39) (j := 32) in_Tx t_Tx_ok n_Tx rfl (by decide) mw_1619 rfl (by decide +kernel) d_Tx_read_117)) (os_n (os_l (so_aload_n d_Tx_read_120 rfl)) (os_l (so_aload_n d_Tx_read_121 rfl))))) (os_n (os_n (os_l (so_get (C := R_Tx) (T := F_Tx) (N := 39) (j := 38) in_Tx rfl (by decide) mw_1626 d_Tx_read_122)) (os_l (so_putI (C := R_Tx) (T := F_Tx) (N := 39) (j := 33) in_Tx t_Tx_ok n_Tx rfl (by decide) mw_1621 rfl (by decide +kernel) d_Tx_read_125))) (os_n (os_l (so_aload_n d_Tx_read_128 rfl)) (os_n (os_l (so_get (C := R_Tx) (T := F_Tx) (N := 39) (j := 33) in_Tx rfl (by decide) mw_1621 d_Tx_read_129)) (os_l (so_ireturn rfl d_Tx_read_132)))))))))
