abbrev t_Wa_move_42 : List UInt8 := 177 :: []
abbrev t_Wa_move_39 : List UInt8 := 167 :: 255 :: 219 :: t_Wa_move_42
abbrev t_Wa_move_36 : List UInt8 := 132 :: 1 :: 1 :: t_Wa_move_39
abbrev t_Wa_move_33 : List UInt8 := 167 :: 255 :: 235 :: t_Wa_move_36
abbrev t_Wa_move_30 : List UInt8 := 132 :: 2 :: 1 :: t_Wa_move_33
abbrev t_Wa_move_27 : List UInt8 := 153 :: 0 :: 9 :: t_Wa_move_30
abbrev t_Wa_move_24 : List UInt8 := 182 :: 0 :: 129 :: t_Wa_move_27
abbrev t_Wa_move_23 : List UInt8 := 27 :: t_Wa_move_24
abbrev t_Wa_move_22 : List UInt8 := 42 :: t_Wa_move_23
abbrev t_Wa_move_19 : List UInt8 := 162 :: 0 :: 17 :: t_Wa_move_22
abbrev t_Wa_move_18 : List UInt8 := 46 :: t_Wa_move_19
abbrev t_Wa_move_17 : List UInt8 := 27 :: t_Wa_move_18
abbrev t_Wa_move_14 : List UInt8 := 180 :: 0 :: 18 :: t_Wa_move_17
abbrev t_Wa_move_13 : List UInt8 := 42 :: t_Wa_move_14
abbrev t_Wa_move_12 : List UInt8 := 28 :: t_Wa_move_13
abbrev t_Wa_move_11 : List UInt8 := 61 :: t_Wa_move_12
abbrev t_Wa_move_10 : List UInt8 := 3 :: t_Wa_move_11
abbrev t_Wa_move_7 : List UInt8 := 162 :: 0 :: 35 :: t_Wa_move_10
abbrev t_Wa_move_4 : List UInt8 := 180 :: 0 :: 65 :: t_Wa_move_7
abbrev t_Wa_move_3 : List UInt8 := 42 :: t_Wa_move_4
abbrev t_Wa_move_2 : List UInt8 := 27 :: t_Wa_move_3
abbrev t_Wa_move_1 : List UInt8 := 60 :: t_Wa_move_2
abbrev t_Wa_move_0 : List UInt8 := 3 :: t_Wa_move_1
theorem a_Wa_move_0 : dk_at b_Wa_move 0 t_Wa_move_0 := dk_start (by decide +kernel)
theorem a_Wa_move_1 : dk_at b_Wa_move 1 t_Wa_move_1 := dk_go 1 a_Wa_move_0 rfl
theorem a_Wa_move_2 : dk_at b_Wa_move 2 t_Wa_move_2 := dk_go 1 a_Wa_move_1 rfl
theorem a_Wa_move_3 : dk_at b_Wa_move 3 t_Wa_move_3 := dk_go 1 a_Wa_move_2 rfl
theorem a_Wa_move_4 : dk_at b_Wa_move 4 t_Wa_move_4 := dk_go 1 a_Wa_move_3 rfl
theorem a_Wa_move_7 : dk_at b_Wa_move 7 t_Wa_move_7 := dk_go 3 a_Wa_move_4 rfl
theorem a_Wa_move_10 : dk_at b_Wa_move 10 t_Wa_move_10 := dk_go 3 a_Wa_move_7 rfl
theorem a_Wa_move_11 : dk_at b_Wa_move 11 t_Wa_move_11 := dk_go 1 a_Wa_move_10 rfl
theorem a_Wa_move_12 : dk_at b_Wa_move 12 t_Wa_move_12 := dk_go 1 a_Wa_move_11 rfl
theorem a_Wa_move_13 : dk_at b_Wa_move 13 t_Wa_move_13 := dk_go 1 a_Wa_move_12 rfl
theorem a_Wa_move_14 : dk_at b_Wa_move 14 t_Wa_move_14 := dk_go 1 a_Wa_move_13 rfl
theorem a_Wa_move_17 : dk_at b_Wa_move 17 t_Wa_move_17 := dk_go 3 a_Wa_move_14 rfl
theorem a_Wa_move_18 : dk_at b_Wa_move 18 t_Wa_move_18 := dk_go 1 a_Wa_move_17 rfl
theorem a_Wa_move_19 : dk_at b_Wa_move 19 t_Wa_move_19 := dk_go 1 a_Wa_move_18 rfl
theorem a_Wa_move_22 : dk_at b_Wa_move 22 t_Wa_move_22 := dk_go 3 a_Wa_move_19 rfl
theorem a_Wa_move_23 : dk_at b_Wa_move 23 t_Wa_move_23 := dk_go 1 a_Wa_move_22 rfl
theorem a_Wa_move_24 : dk_at b_Wa_move 24 t_Wa_move_24 := dk_go 1 a_Wa_move_23 rfl
theorem a_Wa_move_27 : dk_at b_Wa_move 27 t_Wa_move_27 := dk_go 3 a_Wa_move_24 rfl
theorem a_Wa_move_30 : dk_at b_Wa_move 30 t_Wa_move_30 := dk_go 3 a_Wa_move_27 rfl
theorem a_Wa_move_33 : dk_at b_Wa_move 33 t_Wa_move_33 := dk_go 3 a_Wa_move_30 rfl
theorem a_Wa_move_36 : dk_at b_Wa_move 36 t_Wa_move_36 := dk_go 3 a_Wa_move_33 rfl
theorem a_Wa_move_39 : dk_at b_Wa_move 39 t_Wa_move_39 := dk_go 3 a_Wa_move_36 rfl
theorem a_Wa_move_42 : dk_at b_Wa_move 42 t_Wa_move_42 := dk_go 3 a_Wa_move_39 rfl
theorem d_Wa_move_0 : decode b_Wa_move 0 = .ok (.iconst 0, 1) := dk_0 a_Wa_move_0 (dko_3 _)
theorem d_Wa_move_1 : decode b_Wa_move 1 = .ok (.istore_n 1, 1) := dk_0 a_Wa_move_1 (dko_60 _)
theorem d_Wa_move_2 : decode b_Wa_move 2 = .ok (.iload_n 1, 1) := dk_0 a_Wa_move_2 (dko_27 _)
theorem d_Wa_move_3 : decode b_Wa_move 3 = .ok (.aload_n 0, 1) := dk_0 a_Wa_move_3 (dko_42 _)
theorem d_Wa_move_4 : decode b_Wa_move 4 = .ok (.getfield 65, 3) := dk_U2 a_Wa_move_4 (dko_180 _) rfl
theorem d_Wa_move_7 : decode b_Wa_move 7 = .ok (.if_icmp .ge 35, 3) := dk_S2 a_Wa_move_7 (dko_162 _) (by decide +kernel)
theorem d_Wa_move_10 : decode b_Wa_move 10 = .ok (.iconst 0, 1) := dk_0 a_Wa_move_10 (dko_3 _)
theorem d_Wa_move_11 : decode b_Wa_move 11 = .ok (.istore_n 2, 1) := dk_0 a_Wa_move_11 (dko_61 _)
theorem d_Wa_move_12 : decode b_Wa_move 12 = .ok (.iload_n 2, 1) := dk_0 a_Wa_move_12 (dko_28 _)
theorem d_Wa_move_13 : decode b_Wa_move 13 = .ok (.aload_n 0, 1) := dk_0 a_Wa_move_13 (dko_42 _)
theorem d_Wa_move_14 : decode b_Wa_move 14 = .ok (.getfield 18, 3) := dk_U2 a_Wa_move_14 (dko_180 _) rfl
theorem d_Wa_move_17 : decode b_Wa_move 17 = .ok (.iload_n 1, 1) := dk_0 a_Wa_move_17 (dko_27 _)
theorem d_Wa_move_18 : decode b_Wa_move 18 = .ok (.iaload, 1) := dk_0 a_Wa_move_18 (dko_46 _)
theorem d_Wa_move_19 : decode b_Wa_move 19 = .ok (.if_icmp .ge 17, 3) := dk_S2 a_Wa_move_19 (dko_162 _) (by decide +kernel)
theorem d_Wa_move_22 : decode b_Wa_move 22 = .ok (.aload_n 0, 1) := dk_0 a_Wa_move_22 (dko_42 _)
theorem d_Wa_move_23 : decode b_Wa_move 23 = .ok (.iload_n 1, 1) := dk_0 a_Wa_move_23 (dko_27 _)
theorem d_Wa_move_24 : decode b_Wa_move 24 = .ok (.invokevirtual 129, 3) := dk_U2 a_Wa_move_24 (dko_182 _) rfl
theorem d_Wa_move_27 : decode b_Wa_move 27 = .ok (.ifCond .eq 9, 3) := dk_S2 a_Wa_move_27 (dko_153 _) (by decide +kernel)
theorem d_Wa_move_30 : decode b_Wa_move 30 = .ok (.iinc 2 1, 3) := dk_US a_Wa_move_30 (dko_132 _) (by decide +kernel)
theorem d_Wa_move_33 : decode b_Wa_move 33 = .ok (.goto (-21), 3) := dk_S2 a_Wa_move_33 (dko_167 _) (by decide +kernel)
theorem d_Wa_move_36 : decode b_Wa_move 36 = .ok (.iinc 1 1, 3) := dk_US a_Wa_move_36 (dko_132 _) (by decide +kernel)
theorem d_Wa_move_39 : decode b_Wa_move 39 = .ok (.goto (-37), 3) := dk_S2 a_Wa_move_39 (dko_167 _) (by decide +kernel)
theorem d_Wa_move_42 : decode b_Wa_move 42 = .ok (.return_, 1) := dk_0 a_Wa_move_42 (dko_177 _)
set_option maxHeartbeats 4000000 in
set_option maxRecDepth 100000 in
theorem ok_Wa_move (pc : Nat) : OpS mt mi_Wa_move pc (cs_Wa_move pc) := (os_n (os_n (os_n (os_n (os_l (so_iconst d_Wa_move_0 (by decide))) (os_l (so_istore_n d_Wa_move_1 rfl (by decide)))) (os_n (os_l (so_iload_n d_Wa_move_2 rfl)) (os_n (os_l (so_aload_n d_Wa_move_3 rfl)) (os_l (so_get (C := R_Wa) (T := F_Wa) (N := 18) (j := 1) in_Wa rfl (by decide) mw_218 d_Wa_move_4))))) (os_n (os_n (os_l (so_icge d_Wa_move_7 (by decide))) (os_n (os_l (so_iconst d_Wa_move_10 (by decide))) (os_l (so_istore_n d_Wa_move_11 rfl (by decide))))) (os_n (os_l (so_iload_n d_Wa_move_12 rfl)) (os_n (os_l (so_aload_n d_Wa_move_13 rfl)) (os_l (so_get (C := R_Wa) (T := F_Wa) (N := 18) (j := 4) in_Wa rfl (by decide) mw_222 d_Wa_move_14)))))) (os_n (os_n (os_n (os_l (so_iload_n d_Wa_move_17 rfl)) (os_n (os_l (so_iaload d_Wa_move_18)) (os_l (so_icge d_Wa_move_19 (by decide))))) (os_n (os_l (so_aload_n d_Wa_move_22 rfl)) (os_n (os_l (so_iload_n d_Wa_move_23 rfl)) (os_l (so_callV (iv := mi_Wa_movesLitre) rfl rfl rfl mw_1438 mw_1440 sl_84 mw_7 mw_1441 ⟨by decide +kernel, by decide +kernel, by decide +kernel⟩ (by decide) d_Wa_move_24))))) (os_n (os_n (os_l (so_ifeq d_Wa_move_27 (by decide))) (os_n (os_l (so_iinc d_Wa_move_30 (by decide) (by decide))) (os_l (so_goto d_Wa_move_33 (by decide))))) (os_n (os_l (so_iinc d_Wa_move_36 (by decide) (by decide))) (os_n (os_l (so_goto d_Wa_move_39 (by decide))) (os_l (so_return rfl d_Wa_move_42)))))))
abbrev t_Wa_movesLitre_193 : List UInt8 := 172 :: []
abbrev t_Wa_movesLitre_192 : List UInt8 := 4 :: t_Wa_movesLitre_193
abbrev t_Wa_movesLitre_189 : List UInt8 := 182 :: 0 :: 157 :: t_Wa_movesLitre_192
abbrev t_Wa_movesLitre_188 : List UInt8 := 4 :: t_Wa_movesLitre_189
abbrev t_Wa_movesLitre_187 : List UInt8 := 28 :: t_Wa_movesLitre_188
abbrev t_Wa_movesLitre_186 : List UInt8 := 29 :: t_Wa_movesLitre_187
abbrev t_Wa_movesLitre_183 : List UInt8 := 180 :: 0 :: 58 :: t_Wa_movesLitre_186
abbrev t_Wa_movesLitre_182 : List UInt8 := 42 :: t_Wa_movesLitre_183
abbrev t_Wa_movesLitre_179 : List UInt8 := 153 :: 0 :: 13 :: t_Wa_movesLitre_182
abbrev t_Wa_movesLitre_177 : List UInt8 := 21 :: 4 :: t_Wa_movesLitre_179
abbrev t_Wa_movesLitre_174 : List UInt8 := 167 :: 255 :: 208 :: t_Wa_movesLitre_177
abbrev t_Wa_movesLitre_171 : List UInt8 := 132 :: 6 :: 1 :: t_Wa_movesLitre_174
abbrev t_Wa_movesLitre_169 : List UInt8 := 54 :: 5 :: t_Wa_movesLitre_171
abbrev t_Wa_movesLitre_168 : List UInt8 := 46 :: t_Wa_movesLitre_169
abbrev t_Wa_movesLitre_166 : List UInt8 := 21 :: 5 :: t_Wa_movesLitre_168
abbrev t_Wa_movesLitre_163 : List UInt8 := 180 :: 0 :: 36 :: t_Wa_movesLitre_166
abbrev t_Wa_movesLitre_162 : List UInt8 := 42 :: t_Wa_movesLitre_163
abbrev t_Wa_movesLitre_160 : List UInt8 := 54 :: 4 :: t_Wa_movesLitre_162
abbrev t_Wa_movesLitre_157 : List UInt8 := 182 :: 0 :: 153 :: t_Wa_movesLitre_160
abbrev t_Wa_movesLitre_156 : List UInt8 := 28 :: t_Wa_movesLitre_157
abbrev t_Wa_movesLitre_154 : List UInt8 := 21 :: 4 :: t_Wa_movesLitre_156
abbrev t_Wa_movesLitre_151 : List UInt8 := 182 :: 0 :: 132 :: t_Wa_movesLitre_154
abbrev t_Wa_movesLitre_149 : List UInt8 := 21 :: 5 :: t_Wa_movesLitre_151
abbrev t_Wa_movesLitre_148 : List UInt8 := 42 :: t_Wa_movesLitre_149
abbrev t_Wa_movesLitre_146 : List UInt8 := 21 :: 5 :: t_Wa_movesLitre_148
abbrev t_Wa_movesLitre_143 : List UInt8 := 180 :: 0 :: 58 :: t_Wa_movesLitre_146
abbrev t_Wa_movesLitre_142 : List UInt8 := 42 :: t_Wa_movesLitre_143
abbrev t_Wa_movesLitre_139 : List UInt8 := 155 :: 0 :: 38 :: t_Wa_movesLitre_142
abbrev t_Wa_movesLitre_137 : List UInt8 := 21 :: 5 :: t_Wa_movesLitre_139
abbrev t_Wa_movesLitre_134 : List UInt8 := 162 :: 0 :: 43 :: t_Wa_movesLitre_137
abbrev t_Wa_movesLitre_133 : List UInt8 := 46 :: t_Wa_movesLitre_134
abbrev t_Wa_movesLitre_132 : List UInt8 := 27 :: t_Wa_movesLitre_133
abbrev t_Wa_movesLitre_129 : List UInt8 := 180 :: 0 :: 24 :: t_Wa_movesLitre_132
abbrev t_Wa_movesLitre_128 : List UInt8 := 42 :: t_Wa_movesLitre_129
abbrev t_Wa_movesLitre_126 : List UInt8 := 21 :: 6 :: t_Wa_movesLitre_128
abbrev t_Wa_movesLitre_124 : List UInt8 := 54 :: 6 :: t_Wa_movesLitre_126
abbrev t_Wa_movesLitre_123 : List UInt8 := 3 :: t_Wa_movesLitre_124
abbrev t_Wa_movesLitre_121 : List UInt8 := 54 :: 5 :: t_Wa_movesLitre_123
abbrev t_Wa_movesLitre_120 : List UInt8 := 46 :: t_Wa_movesLitre_121
abbrev t_Wa_movesLitre_119 : List UInt8 := 27 :: t_Wa_movesLitre_120
abbrev t_Wa_movesLitre_116 : List UInt8 := 180 :: 0 :: 27 :: t_Wa_movesLitre_119
abbrev t_Wa_movesLitre_115 : List UInt8 := 42 :: t_Wa_movesLitre_116
abbrev t_Wa_movesLitre_113 : List UInt8 := 54 :: 4 :: t_Wa_movesLitre_115
abbrev t_Wa_movesLitre_112 : List UInt8 := 4 :: t_Wa_movesLitre_113
abbrev t_Wa_movesLitre_109 : List UInt8 := 182 :: 0 :: 149 :: t_Wa_movesLitre_112
abbrev t_Wa_movesLitre_108 : List UInt8 := 4 :: t_Wa_movesLitre_109
abbrev t_Wa_movesLitre_107 : List UInt8 := 46 :: t_Wa_movesLitre_108
abbrev t_Wa_movesLitre_106 : List UInt8 := 27 :: t_Wa_movesLitre_107
abbrev t_Wa_movesLitre_103 : List UInt8 := 180 :: 0 :: 9 :: t_Wa_movesLitre_106
abbrev t_Wa_movesLitre_102 : List UInt8 := 42 :: t_Wa_movesLitre_103
abbrev t_Wa_movesLitre_99 : List UInt8 := 180 :: 0 :: 58 :: t_Wa_movesLitre_102
abbrev t_Wa_movesLitre_98 : List UInt8 := 42 :: t_Wa_movesLitre_99
abbrev t_Wa_movesLitre_97 : List UInt8 := 172 :: t_Wa_movesLitre_98
abbrev t_Wa_movesLitre_96 : List UInt8 := 3 :: t_Wa_movesLitre_97
abbrev t_Wa_movesLitre_93 : List UInt8 := 154 :: 0 :: 5 :: t_Wa_movesLitre_96
abbrev t_Wa_movesLitre_90 : List UInt8 := 182 :: 0 :: 145 :: t_Wa_movesLitre_93
abbrev t_Wa_movesLitre_89 : List UInt8 := 28 :: t_Wa_movesLitre_90
abbrev t_Wa_movesLitre_88 : List UInt8 := 29 :: t_Wa_movesLitre_89
abbrev t_Wa_movesLitre_85 : List UInt8 := 180 :: 0 :: 58 :: t_Wa_movesLitre_88
abbrev t_Wa_movesLitre_84 : List UInt8 := 42 :: t_Wa_movesLitre_85
abbrev t_Wa_movesLitre_81 : List UInt8 := 162 :: 0 :: 15 :: t_Wa_movesLitre_84
abbrev t_Wa_movesLitre_80 : List UInt8 := 46 :: t_Wa_movesLitre_81
abbrev t_Wa_movesLitre_79 : List UInt8 := 29 :: t_Wa_movesLitre_80
abbrev t_Wa_movesLitre_76 : List UInt8 := 180 :: 0 :: 142 :: t_Wa_movesLitre_79
abbrev t_Wa_movesLitre_73 : List UInt8 := 180 :: 0 :: 81 :: t_Wa_movesLitre_76
abbrev t_Wa_movesLitre_70 : List UInt8 := 180 :: 0 :: 58 :: t_Wa_movesLitre_73
abbrev t_Wa_movesLitre_69 : List UInt8 := 42 :: t_Wa_movesLitre_70
abbrev t_Wa_movesLitre_68 : List UInt8 := 46 :: t_Wa_movesLitre_69
abbrev t_Wa_movesLitre_67 : List UInt8 := 29 :: t_Wa_movesLitre_68
abbrev t_Wa_movesLitre_64 : List UInt8 := 180 :: 0 :: 139 :: t_Wa_movesLitre_67
abbrev t_Wa_movesLitre_61 : List UInt8 := 180 :: 0 :: 58 :: t_Wa_movesLitre_64
abbrev t_Wa_movesLitre_60 : List UInt8 := 42 :: t_Wa_movesLitre_61
abbrev t_Wa_movesLitre_57 : List UInt8 := 153 :: 0 :: 41 :: t_Wa_movesLitre_60
abbrev t_Wa_movesLitre_54 : List UInt8 := 182 :: 0 :: 135 :: t_Wa_movesLitre_57
abbrev t_Wa_movesLitre_51 : List UInt8 := 182 :: 0 :: 132 :: t_Wa_movesLitre_54
abbrev t_Wa_movesLitre_50 : List UInt8 := 46 :: t_Wa_movesLitre_51
abbrev t_Wa_movesLitre_49 : List UInt8 := 27 :: t_Wa_movesLitre_50
abbrev t_Wa_movesLitre_46 : List UInt8 := 180 :: 0 :: 30 :: t_Wa_movesLitre_49
abbrev t_Wa_movesLitre_45 : List UInt8 := 42 :: t_Wa_movesLitre_46
abbrev t_Wa_movesLitre_44 : List UInt8 := 42 :: t_Wa_movesLitre_45
abbrev t_Wa_movesLitre_43 : List UInt8 := 46 :: t_Wa_movesLitre_44
abbrev t_Wa_movesLitre_42 : List UInt8 := 27 :: t_Wa_movesLitre_43
abbrev t_Wa_movesLitre_39 : List UInt8 := 180 :: 0 :: 30 :: t_Wa_movesLitre_42
abbrev t_Wa_movesLitre_38 : List UInt8 := 42 :: t_Wa_movesLitre_39
abbrev t_Wa_movesLitre_35 : List UInt8 := 180 :: 0 :: 58 :: t_Wa_movesLitre_38
abbrev t_Wa_movesLitre_34 : List UInt8 := 42 :: t_Wa_movesLitre_35
abbrev t_Wa_movesLitre_33 : List UInt8 := 172 :: t_Wa_movesLitre_34
abbrev t_Wa_movesLitre_32 : List UInt8 := 3 :: t_Wa_movesLitre_33
abbrev t_Wa_movesLitre_29 : List UInt8 := 159 :: 0 :: 5 :: t_Wa_movesLitre_32
abbrev t_Wa_movesLitre_28 : List UInt8 := 28 :: t_Wa_movesLitre_29
abbrev t_Wa_movesLitre_27 : List UInt8 := 46 :: t_Wa_movesLitre_28
abbrev t_Wa_movesLitre_26 : List UInt8 := 46 :: t_Wa_movesLitre_27
abbrev t_Wa_movesLitre_25 : List UInt8 := 27 :: t_Wa_movesLitre_26
abbrev t_Wa_movesLitre_22 : List UInt8 := 180 :: 0 :: 9 :: t_Wa_movesLitre_25
abbrev t_Wa_movesLitre_21 : List UInt8 := 42 :: t_Wa_movesLitre_22
abbrev t_Wa_movesLitre_18 : List UInt8 := 180 :: 0 :: 122 :: t_Wa_movesLitre_21
abbrev t_Wa_movesLitre_15 : List UInt8 := 180 :: 0 :: 58 :: t_Wa_movesLitre_18
abbrev t_Wa_movesLitre_14 : List UInt8 := 42 :: t_Wa_movesLitre_15
abbrev t_Wa_movesLitre_13 : List UInt8 := 62 :: t_Wa_movesLitre_14
abbrev t_Wa_movesLitre_12 : List UInt8 := 46 :: t_Wa_movesLitre_13
abbrev t_Wa_movesLitre_11 : List UInt8 := 27 :: t_Wa_movesLitre_12
abbrev t_Wa_movesLitre_8 : List UInt8 := 180 :: 0 :: 15 :: t_Wa_movesLitre_11
abbrev t_Wa_movesLitre_7 : List UInt8 := 42 :: t_Wa_movesLitre_8
abbrev t_Wa_movesLitre_6 : List UInt8 := 61 :: t_Wa_movesLitre_7
abbrev t_Wa_movesLitre_5 : List UInt8 := 46 :: t_Wa_movesLitre_6
abbrev t_Wa_movesLitre_4 : List UInt8 := 27 :: t_Wa_movesLitre_5
abbrev t_Wa_movesLitre_1 : List UInt8 := 180 :: 0 :: 21 :: t_Wa_movesLitre_4
abbrev t_Wa_movesLitre_0 : List UInt8 := 42 :: t_Wa_movesLitre_1
theorem a_Wa_movesLitre_0 : dk_at b_Wa_movesLitre 0 t_Wa_movesLitre_0 := dk_start (by decide +kernel)
theorem a_Wa_movesLitre_1 : dk_at b_Wa_movesLitre 1 t_Wa_movesLitre_1 := dk_go 1 a_Wa_movesLitre_0 rfl
theorem a_Wa_movesLitre_4 : dk_at b_Wa_movesLitre 4 t_Wa_movesLitre_4 := dk_go 3 a_Wa_movesLitre_1 rfl
theorem a_Wa_movesLitre_5 : dk_at b_Wa_movesLitre 5 t_Wa_movesLitre_5 := dk_go 1 a_Wa_movesLitre_4 rfl
theorem a_Wa_movesLitre_6 : dk_at b_Wa_movesLitre 6 t_Wa_movesLitre_6 := dk_go 1 a_Wa_movesLitre_5 rfl
theorem a_Wa_movesLitre_7 : dk_at b_Wa_movesLitre 7 t_Wa_movesLitre_7 := dk_go 1 a_Wa_movesLitre_6 rfl
theorem a_Wa_movesLitre_8 : dk_at b_Wa_movesLitre 8 t_Wa_movesLitre_8 := dk_go 1 a_Wa_movesLitre_7 rfl
theorem a_Wa_movesLitre_11 : dk_at b_Wa_movesLitre 11 t_Wa_movesLitre_11 := dk_go 3 a_Wa_movesLitre_8 rfl
theorem a_Wa_movesLitre_12 : dk_at b_Wa_movesLitre 12 t_Wa_movesLitre_12 := dk_go 1 a_Wa_movesLitre_11 rfl
theorem a_Wa_movesLitre_13 : dk_at b_Wa_movesLitre 13 t_Wa_movesLitre_13 := dk_go 1 a_Wa_movesLitre_12 rfl
theorem a_Wa_movesLitre_14 : dk_at b_Wa_movesLitre 14 t_Wa_movesLitre_14 := dk_go 1 a_Wa_movesLitre_13 rfl
theorem a_Wa_movesLitre_15 : dk_at b_Wa_movesLitre 15 t_Wa_movesLitre_15 := dk_go 1 a_Wa_movesLitre_14 rfl
theorem a_Wa_movesLitre_18 : dk_at b_Wa_movesLitre 18 t_Wa_movesLitre_18 := dk_go 3 a_Wa_movesLitre_15 rfl
theorem a_Wa_movesLitre_21 : dk_at b_Wa_movesLitre 21 t_Wa_movesLitre_21 := dk_go 3 a_Wa_movesLitre_18 rfl
theorem a_Wa_movesLitre_22 : dk_at b_Wa_movesLitre 22 t_Wa_movesLitre_22 := dk_go 1 a_Wa_movesLitre_21 rfl
theorem a_Wa_movesLitre_25 : dk_at b_Wa_movesLitre 25 t_Wa_movesLitre_25 := dk_go 3 a_Wa_movesLitre_22 rfl
theorem a_Wa_movesLitre_26 : dk_at b_Wa_movesLitre 26 t_Wa_movesLitre_26 := dk_go 1 a_Wa_movesLitre_25 rfl
theorem a_Wa_movesLitre_27 : dk_at b_Wa_movesLitre 27 t_Wa_movesLitre_27 := dk_go 1 a_Wa_movesLitre_26 rfl
theorem a_Wa_movesLitre_28 : dk_at b_Wa_movesLitre 28 t_Wa_movesLitre_28 := dk_go 1 a_Wa_movesLitre_27 rfl
theorem a_Wa_movesLitre_29 : dk_at b_Wa_movesLitre 29 t_Wa_movesLitre_29 := dk_go 1 a_Wa_movesLitre_28 rfl
theorem a_Wa_movesLitre_32 : dk_at b_Wa_movesLitre 32 t_Wa_movesLitre_32 := dk_go 3 a_Wa_movesLitre_29 rfl
theorem a_Wa_movesLitre_33 : dk_at b_Wa_movesLitre 33 t_Wa_movesLitre_33 := dk_go 1 a_Wa_movesLitre_32 rfl
theorem a_Wa_movesLitre_34 : dk_at b_Wa_movesLitre 34 t_Wa_movesLitre_34 := dk_go 1 a_Wa_movesLitre_33 rfl
theorem a_Wa_movesLitre_35 : dk_at b_Wa_movesLitre 35 t_Wa_movesLitre_35 := dk_go 1 a_Wa_movesLitre_34 rfl
theorem a_Wa_movesLitre_38 : dk_at b_Wa_movesLitre 38 t_Wa_movesLitre_38 := dk_go 3 a_Wa_movesLitre_35 rfl
theorem a_Wa_movesLitre_39 : dk_at b_Wa_movesLitre 39 t_Wa_movesLitre_39 := dk_go 1 a_Wa_movesLitre_38 rfl
theorem a_Wa_movesLitre_42 : dk_at b_Wa_movesLitre 42 t_Wa_movesLitre_42 := dk_go 3 a_Wa_movesLitre_39 rfl
theorem a_Wa_movesLitre_43 : dk_at b_Wa_movesLitre 43 t_Wa_movesLitre_43 := dk_go 1 a_Wa_movesLitre_42 rfl
theorem a_Wa_movesLitre_44 : dk_at b_Wa_movesLitre 44 t_Wa_movesLitre_44 := dk_go 1 a_Wa_movesLitre_43 rfl
theorem a_Wa_movesLitre_45 : dk_at b_Wa_movesLitre 45 t_Wa_movesLitre_45 := dk_go 1 a_Wa_movesLitre_44 rfl
theorem a_Wa_movesLitre_46 : dk_at b_Wa_movesLitre 46 t_Wa_movesLitre_46 := dk_go 1 a_Wa_movesLitre_45 rfl
theorem a_Wa_movesLitre_49 : dk_at b_Wa_movesLitre 49 t_Wa_movesLitre_49 := dk_go 3 a_Wa_movesLitre_46 rfl
theorem a_Wa_movesLitre_50 : dk_at b_Wa_movesLitre 50 t_Wa_movesLitre_50 := dk_go 1 a_Wa_movesLitre_49 rfl
theorem a_Wa_movesLitre_51 : dk_at b_Wa_movesLitre 51 t_Wa_movesLitre_51 := dk_go 1 a_Wa_movesLitre_50 rfl
theorem a_Wa_movesLitre_54 : dk_at b_Wa_movesLitre 54 t_Wa_movesLitre_54 := dk_go 3 a_Wa_movesLitre_51 rfl
theorem a_Wa_movesLitre_57 : dk_at b_Wa_movesLitre 57 t_Wa_movesLitre_57 := dk_go 3 a_Wa_movesLitre_54 rfl
theorem a_Wa_movesLitre_60 : dk_at b_Wa_movesLitre 60 t_Wa_movesLitre_60 := dk_go 3 a_Wa_movesLitre_57 rfl
theorem a_Wa_movesLitre_61 : dk_at b_Wa_movesLitre 61 t_Wa_movesLitre_61 := dk_go 1 a_Wa_movesLitre_60 rfl
theorem a_Wa_movesLitre_64 : dk_at b_Wa_movesLitre 64 t_Wa_movesLitre_64 := dk_go 3 a_Wa_movesLitre_61 rfl
theorem a_Wa_movesLitre_67 : dk_at b_Wa_movesLitre 67 t_Wa_movesLitre_67 := dk_go 3 a_Wa_movesLitre_64 rfl
theorem a_Wa_movesLitre_68 : dk_at b_Wa_movesLitre 68 t_Wa_movesLitre_68 := dk_go 1 a_Wa_movesLitre_67 rfl
theorem a_Wa_movesLitre_69 : dk_at b_Wa_movesLitre 69 t_Wa_movesLitre_69 := dk_go 1 a_Wa_movesLitre_68 rfl
theorem a_Wa_movesLitre_70 : dk_at b_Wa_movesLitre 70 t_Wa_movesLitre_70 := dk_go 1 a_Wa_movesLitre_69 rfl
theorem a_Wa_movesLitre_73 : dk_at b_Wa_movesLitre 73 t_Wa_movesLitre_73 := dk_go 3 a_Wa_movesLitre_70 rfl
theorem a_Wa_movesLitre_76 : dk_at b_Wa_movesLitre 76 t_Wa_movesLitre_76 := dk_go 3 a_Wa_movesLitre_73 rfl
theorem a_Wa_movesLitre_79 : dk_at b_Wa_movesLitre 79 t_Wa_movesLitre_79 := dk_go 3 a_Wa_movesLitre_76 rfl
theorem a_Wa_movesLitre_80 : dk_at b_Wa_movesLitre 80 t_Wa_movesLitre_80 := dk_go 1 a_Wa_movesLitre_79 rfl
theorem a_Wa_movesLitre_81 : dk_at b_Wa_movesLitre 81 t_Wa_movesLitre_81 := dk_go 1 a_Wa_movesLitre_80 rfl
theorem a_Wa_movesLitre_84 : dk_at b_Wa_movesLitre 84 t_Wa_movesLitre_84 := dk_go 3 a_Wa_movesLitre_81 rfl
theorem a_Wa_movesLitre_85 : dk_at b_Wa_movesLitre 85 t_Wa_movesLitre_85 := dk_go 1 a_Wa_movesLitre_84 rfl
theorem a_Wa_movesLitre_88 : dk_at b_Wa_movesLitre 88 t_Wa_movesLitre_88 := dk_go 3 a_Wa_movesLitre_85 rfl
theorem a_Wa_movesLitre_89 : dk_at b_Wa_movesLitre 89 t_Wa_movesLitre_89 := dk_go 1 a_Wa_movesLitre_88 rfl
theorem a_Wa_movesLitre_90 : dk_at b_Wa_movesLitre 90 t_Wa_movesLitre_90 := dk_go 1 a_Wa_movesLitre_89 rfl
theorem a_Wa_movesLitre_93 : dk_at b_Wa_movesLitre 93 t_Wa_movesLitre_93 := dk_go 3 a_Wa_movesLitre_90 rfl
theorem a_Wa_movesLitre_96 : dk_at b_Wa_movesLitre 96 t_Wa_movesLitre_96 := dk_go 3 a_Wa_movesLitre_93 rfl
theorem a_Wa_movesLitre_97 : dk_at b_Wa_movesLitre 97 t_Wa_movesLitre_97 := dk_go 1 a_Wa_movesLitre_96 rfl
theorem a_Wa_movesLitre_98 : dk_at b_Wa_movesLitre 98 t_Wa_movesLitre_98 := dk_go 1 a_Wa_movesLitre_97 rfl
theorem a_Wa_movesLitre_99 : dk_at b_Wa_movesLitre 99 t_Wa_movesLitre_99 := dk_go 1 a_Wa_movesLitre_98 rfl
theorem a_Wa_movesLitre_102 : dk_at b_Wa_movesLitre 102 t_Wa_movesLitre_102 := dk_go 3 a_Wa_movesLitre_99 rfl
theorem a_Wa_movesLitre_103 : dk_at b_Wa_movesLitre 103 t_Wa_movesLitre_103 := dk_go 1 a_Wa_movesLitre_102 rfl
theorem a_Wa_movesLitre_106 : dk_at b_Wa_movesLitre 106 t_Wa_movesLitre_106 := dk_go 3 a_Wa_movesLitre_103 rfl
theorem a_Wa_movesLitre_107 : dk_at b_Wa_movesLitre 107 t_Wa_movesLitre_107 := dk_go 1 a_Wa_movesLitre_106 rfl
theorem a_Wa_movesLitre_108 : dk_at b_Wa_movesLitre 108 t_Wa_movesLitre_108 := dk_go 1 a_Wa_movesLitre_107 rfl
theorem a_Wa_movesLitre_109 : dk_at b_Wa_movesLitre 109 t_Wa_movesLitre_109 := dk_go 1 a_Wa_movesLitre_108 rfl
theorem a_Wa_movesLitre_112 : dk_at b_Wa_movesLitre 112 t_Wa_movesLitre_112 := dk_go 3 a_Wa_movesLitre_109 rfl
theorem a_Wa_movesLitre_113 : dk_at b_Wa_movesLitre 113 t_Wa_movesLitre_113 := dk_go 1 a_Wa_movesLitre_112 rfl
theorem a_Wa_movesLitre_115 : dk_at b_Wa_movesLitre 115 t_Wa_movesLitre_115 := dk_go 2 a_Wa_movesLitre_113 rfl
theorem a_Wa_movesLitre_116 : dk_at b_Wa_movesLitre 116 t_Wa_movesLitre_116 := dk_go 1 a_Wa_movesLitre_115 rfl
theorem a_Wa_movesLitre_119 : dk_at b_Wa_movesLitre 119 t_Wa_movesLitre_119 := dk_go 3 a_Wa_movesLitre_116 rfl
theorem a_Wa_movesLitre_120 : dk_at b_Wa_movesLitre 120 t_Wa_movesLitre_120 := dk_go 1 a_Wa_movesLitre_119 rfl
theorem a_Wa_movesLitre_121 : dk_at b_Wa_movesLitre 121 t_Wa_movesLitre_121 := dk_go 1 a_Wa_movesLitre_120 rfl
theorem a_Wa_movesLitre_123 : dk_at b_Wa_movesLitre 123 t_Wa_movesLitre_123 := dk_go 2 a_Wa_movesLitre_121 rfl
theorem a_Wa_movesLitre_124 : dk_at b_Wa_movesLitre 124 t_Wa_movesLitre_124 := dk_go 1 a_Wa_movesLitre_123 rfl
theorem a_Wa_movesLitre_126 : dk_at b_Wa_movesLitre 126 t_Wa_movesLitre_126 := dk_go 2 a_Wa_movesLitre_124 rfl
theorem a_Wa_movesLitre_128 : dk_at b_Wa_movesLitre 128 t_Wa_movesLitre_128 := dk_go 2 a_Wa_movesLitre_126 rfl
theorem a_Wa_movesLitre_129 : dk_at b_Wa_movesLitre 129 t_Wa_movesLitre_129 := dk_go 1 a_Wa_movesLitre_128 rfl
theorem a_Wa_movesLitre_132 : dk_at b_Wa_movesLitre 132 t_Wa_movesLitre_132 := dk_go 3 a_Wa_movesLitre_129 rfl
theorem a_Wa_movesLitre_133 : dk_at b_Wa_movesLitre 133 t_Wa_movesLitre_133 := dk_go 1 a_Wa_movesLitre_132 rfl
theorem a_Wa_movesLitre_134 : dk_at b_Wa_movesLitre 134 t_Wa_movesLitre_134 := dk_go 1 a_Wa_movesLitre_133 rfl
theorem a_Wa_movesLitre_137 : dk_at b_Wa_movesLitre 137 t_Wa_movesLitre_137 := dk_go 3 a_Wa_movesLitre_134 rfl
theorem a_Wa_movesLitre_139 : dk_at b_Wa_movesLitre 139 t_Wa_movesLitre_139 := dk_go 2 a_Wa_movesLitre_137 rfl
theorem a_Wa_movesLitre_142 : dk_at b_Wa_movesLitre 142 t_Wa_movesLitre_142 := dk_go 3 a_Wa_movesLitre_139 rfl
theorem a_Wa_movesLitre_143 : dk_at b_Wa_movesLitre 143 t_Wa_movesLitre_143 := dk_go 1 a_Wa_movesLitre_142 rfl
theorem a_Wa_movesLitre_146 : dk_at b_Wa_movesLitre 146 t_Wa_movesLitre_146 := dk_go 3 a_Wa_movesLitre_143 rfl
theorem a_Wa_movesLitre_148 : dk_at b_Wa_movesLitre 148 t_Wa_movesLitre_148 := dk_go 2 a_Wa_movesLitre_146 rfl
theorem a_Wa_movesLitre_149 : dk_at b_Wa_movesLitre 149 t_Wa_movesLitre_149 := dk_go 1 a_Wa_movesLitre_148 rfl
theorem a_Wa_movesLitre_151 : dk_at b_Wa_movesLitre 151 t_Wa_movesLitre_151 := dk_go 2 a_Wa_movesLitre_149 rfl
theorem a_Wa_movesLitre_154 : dk_at b_Wa_movesLitre 154 t_Wa_movesLitre_154 := dk_go 3 a_Wa_movesLitre_151 rfl
theorem a_Wa_movesLitre_156 : dk_at b_Wa_movesLitre 156 t_Wa_movesLitre_156 := dk_go 2 a_Wa_movesLitre_154 rfl
theorem a_Wa_movesLitre_157 : dk_at b_Wa_movesLitre 157 t_Wa_movesLitre_157 := dk_go 1 a_Wa_movesLitre_156 rfl
theorem a_Wa_movesLitre_160 : dk_at b_Wa_movesLitre 160 t_Wa_movesLitre_160 := dk_go 3 a_Wa_movesLitre_157 rfl
theorem a_Wa_movesLitre_162 : dk_at b_Wa_movesLitre 162 t_Wa_movesLitre_162 := dk_go 2 a_Wa_movesLitre_160 rfl
theorem a_Wa_movesLitre_163 : dk_at b_Wa_movesLitre 163 t_Wa_movesLitre_163 := dk_go 1 a_Wa_movesLitre_162 rfl
theorem a_Wa_movesLitre_166 : dk_at b_Wa_movesLitre 166 t_Wa_movesLitre_166 := dk_go 3 a_Wa_movesLitre_163 rfl
theorem a_Wa_movesLitre_168 : dk_at b_Wa_movesLitre 168 t_Wa_movesLitre_168 := dk_go 2 a_Wa_movesLitre_166 rfl
theorem a_Wa_movesLitre_169 : dk_at b_Wa_movesLitre 169 t_Wa_movesLitre_169 := dk_go 1 a_Wa_movesLitre_168 rfl
theorem a_Wa_movesLitre_171 : dk_at b_Wa_movesLitre 171 t_Wa_movesLitre_171 := dk_go 2 a_Wa_movesLitre_169 rfl
theorem a_Wa_movesLitre_174 : dk_at b_Wa_movesLitre 174 t_Wa_movesLitre_174 := dk_go 3 a_Wa_movesLitre_171 rfl
theorem a_Wa_movesLitre_177 : dk_at b_Wa_movesLitre 177 t_Wa_movesLitre_177 := dk_go 3 a_Wa_movesLitre_174 rfl
theorem a_Wa_movesLitre_179 : dk_at b_Wa_movesLitre 179 t_Wa_movesLitre_179 := dk_go 2 a_Wa_movesLitre_177 rfl
theorem a_Wa_movesLitre_182 : dk_at b_Wa_movesLitre 182 t_Wa_movesLitre_182 := dk_go 3 a_Wa_movesLitre_179 rfl
theorem a_Wa_movesLitre_183 : dk_at b_Wa_movesLitre 183 t_Wa_movesLitre_183 := dk_go 1 a_Wa_movesLitre_182 rfl
theorem a_Wa_movesLitre_186 : dk_at b_Wa_movesLitre 186 t_Wa_movesLitre_186 := dk_go 3 a_Wa_movesLitre_183 rfl
theorem a_Wa_movesLitre_187 : dk_at b_Wa_movesLitre 187 t_Wa_movesLitre_187 := dk_go 1 a_Wa_movesLitre_186 rfl
theorem a_Wa_movesLitre_188 : dk_at b_Wa_movesLitre 188 t_Wa_movesLitre_188 := dk_go 1 a_Wa_movesLitre_187 rfl
theorem a_Wa_movesLitre_189 : dk_at b_Wa_movesLitre 189 t_Wa_movesLitre_189 := dk_go 1 a_Wa_movesLitre_188 rfl
theorem a_Wa_movesLitre_192 : dk_at b_Wa_movesLitre 192 t_Wa_movesLitre_192 := dk_go 3 a_Wa_movesLitre_189 rfl
theorem a_Wa_movesLitre_193 : dk_at b_Wa_movesLitre 193 t_Wa_movesLitre_193 := dk_go 1 a_Wa_movesLitre_192 rfl
theorem d_Wa_movesLitre_0 : decode b_Wa_movesLitre 0 = .ok (.aload_n 0, 1) := dk_0 a_Wa_movesLitre_0 (dko_42 _)
theorem d_Wa_movesLitre_1 : decode b_Wa_movesLitre 1 = .ok (.getfield 21, 3) := dk_U2 a_Wa_movesLitre_1 (dko_180 _) rfl
theorem d_Wa_movesLitre_4 : decode b_Wa_movesLitre 4 = .ok (.iload_n 1, 1) := dk_0 a_Wa_movesLitre_4 (dko_27 _)
theorem d_Wa_movesLitre_5 : decode b_Wa_movesLitre 5 = .ok (.iaload, 1) := dk_0 a_Wa_movesLitre_5 (dko_46 _)
theorem d_Wa_movesLitre_6 : decode b_Wa_movesLitre 6 = .ok (.istore_n 2, 1) := dk_0 a_Wa_movesLitre_6 (dko_61 _)
theorem d_Wa_movesLitre_7 : decode b_Wa_movesLitre 7 = .ok (.aload_n 0, 1) := dk_0 a_Wa_movesLitre_7 (dko_42 _)
theorem d_Wa_movesLitre_8 : decode b_Wa_movesLitre 8 = .ok (.getfield 15, 3) := dk_U2 a_Wa_movesLitre_8 (dko_180 _) rfl
theorem d_Wa_movesLitre_11 : decode b_Wa_movesLitre 11 = .ok (.iload_n 1, 1) := dk_0 a_Wa_movesLitre_11 (dko_27 _)
theorem d_Wa_movesLitre_12 : decode b_Wa_movesLitre 12 = .ok (.iaload, 1) := dk_0 a_Wa_movesLitre_12 (dko_46 _)
theorem d_Wa_movesLitre_13 : decode b_Wa_movesLitre 13 = .ok (.istore_n 3, 1) := dk_0 a_Wa_movesLitre_13 (dko_62 _)
theorem d_Wa_movesLitre_14 : decode b_Wa_movesLitre 14 = .ok (.aload_n 0, 1) := dk_0 a_Wa_movesLitre_14 (dko_42 _)
theorem d_Wa_movesLitre_15 : decode b_Wa_movesLitre 15 = .ok (.getfield 58, 3) := dk_U2 a_Wa_movesLitre_15 (dko_180 _) rfl
theorem d_Wa_movesLitre_18 : decode b_Wa_movesLitre 18 = .ok (.getfield 122, 3) := dk_U2 a_Wa_movesLitre_18 (dko_180 _) rfl
theorem d_Wa_movesLitre_21 : decode b_Wa_movesLitre 21 = .ok (.aload_n 0, 1) := dk_0 a_Wa_movesLitre_21 (dko_42 _)
theorem d_Wa_movesLitre_22 : decode b_Wa_movesLitre 22 = .ok (.getfield 9, 3) := dk_U2 a_Wa_movesLitre_22 (dko_180 _) rfl
theorem d_Wa_movesLitre_25 : decode b_Wa_movesLitre 25 = .ok (.iload_n 1, 1) := dk_0 a_Wa_movesLitre_25 (dko_27 _)
theorem d_Wa_movesLitre_26 : decode b_Wa_movesLitre 26 = .ok (.iaload, 1) := dk_0 a_Wa_movesLitre_26 (dko_46 _)
theorem d_Wa_movesLitre_27 : decode b_Wa_movesLitre 27 = .ok (.iaload, 1) := dk_0 a_Wa_movesLitre_27 (dko_46 _)
theorem d_Wa_movesLitre_28 : decode b_Wa_movesLitre 28 = .ok (.iload_n 2, 1) := dk_0 a_Wa_movesLitre_28 (dko_28 _)
theorem d_Wa_movesLitre_29 : decode b_Wa_movesLitre 29 = .ok (.if_icmp .eq 5, 3) := dk_S2 a_Wa_movesLitre_29 (dko_159 _) (by decide +kernel)
theorem d_Wa_movesLitre_32 : decode b_Wa_movesLitre 32 = .ok (.iconst 0, 1) := dk_0 a_Wa_movesLitre_32 (dko_3 _)
theorem d_Wa_movesLitre_33 : decode b_Wa_movesLitre 33 = .ok (.ireturn, 1) := dk_0 a_Wa_movesLitre_33 (dko_172 _)
theorem d_Wa_movesLitre_34 : decode b_Wa_movesLitre 34 = .ok (.aload_n 0, 1) := dk_0 a_Wa_movesLitre_34 (dko_42 _)
theorem d_Wa_movesLitre_35 : decode b_Wa_movesLitre 35 = .ok (.getfield 58, 3) := dk_U2 a_Wa_movesLitre_35 (dko_180 _) rfl
theorem d_Wa_movesLitre_38 : decode b_Wa_movesLitre 38 = .ok (.aload_n 0, 1) := dk_0 a_Wa_movesLitre_38 (dko_42 _)
theorem d_Wa_movesLitre_39 : decode b_Wa_movesLitre 39 = .ok (.getfield 30, 3) := dk_U2 a_Wa_movesLitre_39 (dko_180 _) rfl
theorem d_Wa_movesLitre_42 : decode b_Wa_movesLitre 42 = .ok (.iload_n 1, 1) := dk_0 a_Wa_movesLitre_42 (dko_27 _)
theorem d_Wa_movesLitre_43 : decode b_Wa_movesLitre 43 = .ok (.iaload, 1) := dk_0 a_Wa_movesLitre_43 (dko_46 _)
theorem d_Wa_movesLitre_44 : decode b_Wa_movesLitre 44 = .ok (.aload_n 0, 1) := dk_0 a_Wa_movesLitre_44 (dko_42 _)
theorem d_Wa_movesLitre_45 : decode b_Wa_movesLitre 45 = .ok (.aload_n 0, 1) := dk_0 a_Wa_movesLitre_45 (dko_42 _)
theorem d_Wa_movesLitre_46 : decode b_Wa_movesLitre 46 = .ok (.getfield 30, 3) := dk_U2 a_Wa_movesLitre_46 (dko_180 _) rfl
theorem d_Wa_movesLitre_49 : decode b_Wa_movesLitre 49 = .ok (.iload_n 1, 1) := dk_0 a_Wa_movesLitre_49 (dko_27 _)
theorem d_Wa_movesLitre_50 : decode b_Wa_movesLitre 50 = .ok (.iaload, 1) := dk_0 a_Wa_movesLitre_50 (dko_46 _)
theorem d_Wa_movesLitre_51 : decode b_Wa_movesLitre 51 = .ok (.invokevirtual 132, 3) := dk_U2 a_Wa_movesLitre_51 (dko_182 _) rfl
theorem d_Wa_movesLitre_54 : decode b_Wa_movesLitre 54 = .ok (.invokevirtual 135, 3) := dk_U2 a_Wa_movesLitre_54 (dko_182 _) rfl
theorem d_Wa_movesLitre_57 : decode b_Wa_movesLitre 57 = .ok (.ifCond .eq 41, 3) := dk_S2 a_Wa_movesLitre_57 (dko_153 _) (by decide +kernel)
theorem d_Wa_movesLitre_60 : decode b_Wa_movesLitre 60 = .ok (.aload_n 0, 1) := dk_0 a_Wa_movesLitre_60 (dko_42 _)
theorem d_Wa_movesLitre_61 : decode b_Wa_movesLitre 61 = .ok (.getfield 58, 3) := dk_U2 a_Wa_movesLitre_61 (dko_180 _) rfl
theorem d_Wa_movesLitre_64 : decode b_Wa_movesLitre 64 = .ok (.getfield 139, 3) := dk_U2 a_Wa_movesLitre_64 (dko_180 _) rfl
theorem d_Wa_movesLitre_67 : decode b_Wa_movesLitre 67 = .ok (.iload_n 3, 1) := dk_0 a_Wa_movesLitre_67 (dko_29 _)
theorem d_Wa_movesLitre_68 : decode b_Wa_movesLitre 68 = .ok (.iaload, 1) := dk_0 a_Wa_movesLitre_68 (dko_46 _)
theorem d_Wa_movesLitre_69 : decode b_Wa_movesLitre 69 = .ok (.aload_n 0, 1) := dk_0 a_Wa_movesLitre_69 (dko_42 _)
theorem d_Wa_movesLitre_70 : decode b_Wa_movesLitre 70 = .ok (.getfield 58, 3) := dk_U2 a_Wa_movesLitre_70 (dko_180 _) rfl
theorem d_Wa_movesLitre_73 : decode b_Wa_movesLitre 73 = .ok (.getfield 81, 3) := dk_U2 a_Wa_movesLitre_73 (dko_180 _) rfl
theorem d_Wa_movesLitre_76 : decode b_Wa_movesLitre 76 = .ok (.getfield 142, 3) := dk_U2 a_Wa_movesLitre_76 (dko_180 _) rfl
theorem d_Wa_movesLitre_79 : decode b_Wa_movesLitre 79 = .ok (.iload_n 3, 1) := dk_0 a_Wa_movesLitre_79 (dko_29 _)
theorem d_Wa_movesLitre_80 : decode b_Wa_movesLitre 80 = .ok (.iaload, 1) := dk_0 a_Wa_movesLitre_80 (dko_46 _)
theorem d_Wa_movesLitre_81 : decode b_Wa_movesLitre 81 = .ok (.if_icmp .ge 15, 3) := dk_S2 a_Wa_movesLitre_81 (dko_162 _) (by decide +kernel)
theorem d_Wa_movesLitre_84 : decode b_Wa_movesLitre 84 = .ok (.aload_n 0, 1) := dk_0 a_Wa_movesLitre_84 (dko_42 _)
theorem d_Wa_movesLitre_85 : decode b_Wa_movesLitre 85 = .ok (.getfield 58, 3) := dk_U2 a_Wa_movesLitre_85 (dko_180 _) rfl
theorem d_Wa_movesLitre_88 : decode b_Wa_movesLitre 88 = .ok (.iload_n 3, 1) := dk_0 a_Wa_movesLitre_88 (dko_29 _)
theorem d_Wa_movesLitre_89 : decode b_Wa_movesLitre 89 = .ok (.iload_n 2, 1) := dk_0 a_Wa_movesLitre_89 (dko_28 _)
theorem d_Wa_movesLitre_90 : decode b_Wa_movesLitre 90 = .ok (.invokevirtual 145, 3) := dk_U2 a_Wa_movesLitre_90 (dko_182 _) rfl
theorem d_Wa_movesLitre_93 : decode b_Wa_movesLitre 93 = .ok (.ifCond .ne 5, 3) := dk_S2 a_Wa_movesLitre_93 (dko_154 _) (by decide +kernel)
theorem d_Wa_movesLitre_96 : decode b_Wa_movesLitre 96 = .ok (.iconst 0, 1) := dk_0 a_Wa_movesLitre_96 (dko_3 _)
theorem d_Wa_movesLitre_97 : decode b_Wa_movesLitre 97 = .ok (.ireturn, 1) := dk_0 a_Wa_movesLitre_97 (dko_172 _)
theorem d_Wa_movesLitre_98 : decode b_Wa_movesLitre 98 = .ok (.aload_n 0, 1) := dk_0 a_Wa_movesLitre_98 (dko_42 _)
theorem d_Wa_movesLitre_99 : decode b_Wa_movesLitre 99 = .ok (.getfield 58, 3) := dk_U2 a_Wa_movesLitre_99 (dko_180 _) rfl
theorem d_Wa_movesLitre_102 : decode b_Wa_movesLitre 102 = .ok (.aload_n 0, 1) := dk_0 a_Wa_movesLitre_102 (dko_42 _)
theorem d_Wa_movesLitre_103 : decode b_Wa_movesLitre 103 = .ok (.getfield 9, 3) := dk_U2 a_Wa_movesLitre_103 (dko_180 _) rfl
theorem d_Wa_movesLitre_106 : decode b_Wa_movesLitre 106 = .ok (.iload_n 1, 1) := dk_0 a_Wa_movesLitre_106 (dko_27 _)
theorem d_Wa_movesLitre_107 : decode b_Wa_movesLitre 107 = .ok (.iaload, 1) := dk_0 a_Wa_movesLitre_107 (dko_46 _)
theorem d_Wa_movesLitre_108 : decode b_Wa_movesLitre 108 = .ok (.iconst 1, 1) := dk_0 a_Wa_movesLitre_108 (dko_4 _)
theorem d_Wa_movesLitre_109 : decode b_Wa_movesLitre 109 = .ok (.invokevirtual 149, 3) := dk_U2 a_Wa_movesLitre_109 (dko_182 _) rfl
theorem d_Wa_movesLitre_112 : decode b_Wa_movesLitre 112 = .ok (.iconst 1, 1) := dk_0 a_Wa_movesLitre_112 (dko_4 _)
theorem d_Wa_movesLitre_113 : decode b_Wa_movesLitre 113 = .ok (.istore 4, 2) := dk_U1 a_Wa_movesLitre_113 (dko_54 _) rfl
theorem d_Wa_movesLitre_115 : decode b_Wa_movesLitre 115 = .ok (.aload_n 0, 1) := dk_0 a_Wa_movesLitre_115 (dko_42 _)
theorem d_Wa_movesLitre_116 : decode b_Wa_movesLitre 116 = .ok (.getfield 27, 3) := dk_U2 a_Wa_movesLitre_116 (dko_180 _) rfl
theorem d_Wa_movesLitre_119 : decode b_Wa_movesLitre 119 = .ok (.iload_n 1, 1) := dk_0 a_Wa_movesLitre_119 (dko_27 _)
theorem d_Wa_movesLitre_120 : decode b_Wa_movesLitre 120 = .ok (.iaload, 1) := dk_0 a_Wa_movesLitre_120 (dko_46 _)
theorem d_Wa_movesLitre_121 : decode b_Wa_movesLitre 121 = .ok (.istore 5, 2) := dk_U1 a_Wa_movesLitre_121 (dko_54 _) rfl
theorem d_Wa_movesLitre_123 : decode b_Wa_movesLitre 123 = .ok (.iconst 0, 1) := dk_0 a_Wa_movesLitre_123 (dko_3 _)
theorem d_Wa_movesLitre_124 : decode b_Wa_movesLitre 124 = .ok (.istore 6, 2) := dk_U1 a_Wa_movesLitre_124 (dko_54 _) rfl
theorem d_Wa_movesLitre_126 : decode b_Wa_movesLitre 126 = .ok (.iload 6, 2) := dk_U1 a_Wa_movesLitre_126 (dko_21 _) rfl
theorem d_Wa_movesLitre_128 : decode b_Wa_movesLitre 128 = .ok (.aload_n 0, 1) := dk_0 a_Wa_movesLitre_128 (dko_42 _)
theorem d_Wa_movesLitre_129 : decode b_Wa_movesLitre 129 = .ok (.getfield 24, 3) := dk_U2 a_Wa_movesLitre_129 (dko_180 _) rfl
theorem d_Wa_movesLitre_132 : decode b_Wa_movesLitre 132 = .ok (.iload_n 1, 1) := dk_0 a_Wa_movesLitre_132 (dko_27 _)
theorem d_Wa_movesLitre_133 : decode b_Wa_movesLitre 133 = .ok (.iaload, 1) := dk_0 a_Wa_movesLitre_133 (dko_46 _)
theorem d_Wa_movesLitre_134 : decode b_Wa_movesLitre 134 = .ok (.if_icmp .ge 43, 3) := dk_S2 a_Wa_movesLitre_134 (dko_162 _) (by decide +kernel)
theorem d_Wa_movesLitre_137 : decode b_Wa_movesLitre 137 = .ok (.iload 5, 2) := dk_U1 a_Wa_movesLitre_137 (dko_21 _) rfl
theorem d_Wa_movesLitre_139 : decode b_Wa_movesLitre 139 = .ok (.ifCond .lt 38, 3) := dk_S2 a_Wa_movesLitre_139 (dko_155 _) (by decide +kernel)
theorem d_Wa_movesLitre_142 : decode b_Wa_movesLitre 142 = .ok (.aload_n 0, 1) := dk_0 a_Wa_movesLitre_142 (dko_42 _)
theorem d_Wa_movesLitre_143 : decode b_Wa_movesLitre 143 = .ok (.getfield 58, 3) := dk_U2 a_Wa_movesLitre_143 (dko_180 _) rfl
theorem d_Wa_movesLitre_146 : decode b_Wa_movesLitre 146 = .ok (.iload 5, 2) := dk_U1 a_Wa_movesLitre_146 (dko_21 _) rfl
theorem d_Wa_movesLitre_148 : decode b_Wa_movesLitre 148 = .ok (.aload_n 0, 1) := dk_0 a_Wa_movesLitre_148 (dko_42 _)
theorem d_Wa_movesLitre_149 : decode b_Wa_movesLitre 149 = .ok (.iload 5, 2) := dk_U1 a_Wa_movesLitre_149 (dko_21 _) rfl
theorem d_Wa_movesLitre_151 : decode b_Wa_movesLitre 151 = .ok (.invokevirtual 132, 3) := dk_U2 a_Wa_movesLitre_151 (dko_182 _) rfl
theorem d_Wa_movesLitre_154 : decode b_Wa_movesLitre 154 = .ok (.iload 4, 2) := dk_U1 a_Wa_movesLitre_154 (dko_21 _) rfl
theorem d_Wa_movesLitre_156 : decode b_Wa_movesLitre 156 = .ok (.iload_n 2, 1) := dk_0 a_Wa_movesLitre_156 (dko_28 _)
theorem d_Wa_movesLitre_157 : decode b_Wa_movesLitre 157 = .ok (.invokevirtual 153, 3) := dk_U2 a_Wa_movesLitre_157 (dko_182 _) rfl
theorem d_Wa_movesLitre_160 : decode b_Wa_movesLitre 160 = .ok (.istore 4, 2) := dk_U1 a_Wa_movesLitre_160 (dko_54 _) rfl
theorem d_Wa_movesLitre_162 : decode b_Wa_movesLitre 162 = .ok (.aload_n 0, 1) := dk_0 a_Wa_movesLitre_162 (dko_42 _)
theorem d_Wa_movesLitre_163 : decode b_Wa_movesLitre 163 = .ok (.getfield 36, 3) := dk_U2 a_Wa_movesLitre_163 (dko_180 _) rfl
theorem d_Wa_movesLitre_166 : decode b_Wa_movesLitre 166 = .ok (.iload 5, 2) := dk_U1 a_Wa_movesLitre_166 (dko_21 _) rfl
theorem d_Wa_movesLitre_168 : decode b_Wa_movesLitre 168 = .ok (.iaload, 1) := dk_0 a_Wa_movesLitre_168 (dko_46 _)
theorem d_Wa_movesLitre_169 : decode b_Wa_movesLitre 169 = .ok (.istore 5, 2) := dk_U1 a_Wa_movesLitre_169 (dko_54 _) rfl
theorem d_Wa_movesLitre_171 : decode b_Wa_movesLitre 171 = .ok (.iinc 6 1, 3) := dk_US a_Wa_movesLitre_171 (dko_132 _) (by decide +kernel)
theorem d_Wa_movesLitre_174 : decode b_Wa_movesLitre 174 = .ok (.goto (-48), 3) := dk_S2 a_Wa_movesLitre_174 (dko_167 _) (by decide +kernel)
theorem d_Wa_movesLitre_177 : decode b_Wa_movesLitre 177 = .ok (.iload 4, 2) := dk_U1 a_Wa_movesLitre_177 (dko_21 _) rfl
theorem d_Wa_movesLitre_179 : decode b_Wa_movesLitre 179 = .ok (.ifCond .eq 13, 3) := dk_S2 a_Wa_movesLitre_179 (dko_153 _) (by decide +kernel)
theorem d_Wa_movesLitre_182 : decode b_Wa_movesLitre 182 = .ok (.aload_n 0, 1) := dk_0 a_Wa_movesLitre_182 (dko_42 _)
theorem d_Wa_movesLitre_183 : decode b_Wa_movesLitre 183 = .ok (.getfield 58, 3) := dk_U2 a_Wa_movesLitre_183 (dko_180 _) rfl
theorem d_Wa_movesLitre_186 : decode b_Wa_movesLitre 186 = .ok (.iload_n 3, 1) := dk_0 a_Wa_movesLitre_186 (dko_29 _)
theorem d_Wa_movesLitre_187 : decode b_Wa_movesLitre 187 = .ok (.iload_n 2, 1) := dk_0 a_Wa_movesLitre_187 (dko_28 _)
theorem d_Wa_movesLitre_188 : decode b_Wa_movesLitre 188 = .ok (.iconst 1, 1) := dk_0 a_Wa_movesLitre_188 (dko_4 _)
theorem d_Wa_movesLitre_189 : decode b_Wa_movesLitre 189 = .ok (.invokevirtual 157, 3) := dk_U2 a_Wa_movesLitre_189 (dko_182 _) rfl
theorem d_Wa_movesLitre_192 : decode b_Wa_movesLitre 192 = .ok (.iconst 1, 1) := dk_0 a_Wa_movesLitre_192 (dko_4 _)
theorem d_Wa_movesLitre_193 : decode b_Wa_movesLitre 193 = .ok (.ireturn, 1) := dk_0 a_Wa_movesLitre_193 (dko_172 _)
set_option maxHeartbeats 4000000 in
set_option maxRecDepth 100000 in
theorem ok_Wa_movesLitre (pc : Nat) : OpS mt mi_Wa_movesLitre pc (cs_Wa_movesLitre pc) := (os_n (os_n (os_n (os_n (os_n (os_n (os_l (so_aload_n d_Wa_movesLitre_0 rfl)) (os_n (os_l (so_get (C := R_Wa) (T := F_Wa) (N := 18) (j := 5) in_Wa rfl (by decide) mw_223 d_Wa_movesLitre_1)) (os_l (so_iload_n d_Wa_movesLitre_4 rfl)))) (os_n (os_l (so_iaload d_Wa_movesLitre_5)) (os_n (os_l (so_istore_n d_Wa_movesLitre_6 rfl (by decide))) (os_l (so_aload_n d_Wa_movesLitre_7 rfl))))) (os_n (os_n (os_l (so_get (C := R_Wa) (T := F_Wa) (N := 18) (j := 3) in_Wa rfl (by decide) mw_221 d_Wa_movesLitre_8)) (os_n (os_l (so_iload_n d_Wa_movesLitre_11 rfl)) (os_l (so_iaload d_Wa_movesLitre_12)))) (os_n (os_n (os_l (so_istore_n d_Wa_movesLitre_13 rfl (by decide))) (os_l (so_aload_n d_Wa_movesLitre_14 rfl))) (os_n (os_l (so_get (C := R_Wa) (T := F_Wa) (N := 18) (j := 0) in_Wa rfl (by decide) mw_217 d_Wa_movesLitre_15)) (os_l (so_get (C := R_St) (T := F_St) (N := 12) (j := 3) in_St rfl (by decide) mw_166 d_Wa_movesLitre_18)))))) (os_n (os_n (os_n (os_l (so_aload_n d_Wa_movesLitre_21 rfl)) (os_n (os_l (so_get (C := R_Wa) (T := F_Wa) (N := 18) (j := 2) in_Wa rfl (by decide) mw_220 d_Wa_movesLitre_22)) (os_l (so_iload_n d_Wa_movesLitre_25 rfl)))) (os_n (os_n (os_l (so_iaload d_Wa_movesLitre_26)) (os_l (so_iaload d_Wa_movesLitre_27))) (os_n (os_l (so_iload_n d_Wa_movesLitre_28 rfl)) (os_l (so_iceq d_Wa_movesLitre_29 (by decide)))))) (os_n (os_n (os_l (so_iconst d_Wa_movesLitre_32 (by decide))) (os_n (os_l (so_zreturn rfl d_Wa_movesLitre_33)) (os_l (so_aload_n d_Wa_movesLitre_34 rfl)))) (os_n (os_n (os_l (so_get (C := R_Wa) (T := F_Wa) (N := 18) (j := 0) in_Wa rfl (by decide) mw_217 d_Wa_movesLitre_35)) (os_l (so_aload_n d_Wa_movesLitre_38 rfl))) (os_n (os_l (so_get (C := R_Wa) (T := F_Wa) (N := 18) (j := 8) in_Wa rfl (by decide) mw_226 d_Wa_movesLitre_39)) (os_l (so_iload_n d_Wa_movesLitre_42 rfl))))))) (os_n (os_n (os_n (os_n (os_l (so_iaload d_Wa_movesLitre_43)) (os_n (os_l (so_aload_n d_Wa_movesLitre_44 rfl)) (os_l (so_aload_n d_Wa_movesLitre_45 rfl)))) (os_n (os_l (so_get (C := R_Wa) (T := F_Wa) (N := 18) (j := 8) in_Wa rfl (by decide) mw_226 d_Wa_movesLitre_46)) (os_n (os_l (so_iload_n d_Wa_movesLitre_49 rfl)) (os_l (so_iaload d_Wa_movesLitre_50))))) (os_n (os_n (os_l (so_callV (iv := mi_Wa_goesForth) rfl rfl rfl mw_1442 mw_1444 sl_85 mw_7 mw_1445 ⟨by decide +kernel, by decide +kernel, by decide +kernel⟩ (by decide) d_Wa_movesLitre_51)) (os_n (os_l (so_callV (iv := mi_St_wouldLeave) rfl rfl rfl mw_1446 mw_1447 mw_1448 mw_4 mw_1449 ⟨by decide +kernel, by decide +kernel, by decide +kernel⟩ (by decide) d_Wa_movesLitre_54)) (os_l (so_ifeq d_Wa_movesLitre_57 (by decide))))) (os_n (os_n (os_l (so_aload_n d_Wa_movesLitre_60 rfl)) (os_l (so_get (C := R_Wa) (T := F_Wa) (N := 18) (j := 0) in_Wa rfl (by decide) mw_217 d_Wa_movesLitre_61))) (os_n (os_l (so_get (C := R_St) (T := F_St) (N := 12) (j := 4) in_St rfl (by decide) mw_170 d_Wa_movesLitre_64)) (os_l (so_iload_n d_Wa_movesLitre_67 rfl)))))) (os_n (os_n (os_n (os_l (so_iaload d_Wa_movesLitre_68)) (os_n (os_l (so_aload_n d_Wa_movesLitre_69 rfl)) (os_l (so_get (C := R_Wa) (T := F_Wa) (N := 18) (j := 0) in_Wa rfl (by decide) mw_217 d_Wa_movesLitre_70)))) (os_n (os_n (os_l (so_get (C := R_St) (T := F_St) (N := 12) (j := 0) in_St rfl (by decide) mw_152 d_Wa_movesLitre_73)) (os_l (so_get (C := R_Pl) (T := F_Pl) (N := 12) (j := 3) in_Pl rfl (by decide) mw_102 d_Wa_movesLitre_76))) (os_n (os_l (so_iload_n d_Wa_movesLitre_79 rfl)) (os_l (so_iaload d_Wa_movesLitre_80))))) (os_n (os_n (os_l (so_icge d_Wa_movesLitre_81 (by decide))) (os_n (os_l (so_aload_n d_Wa_movesLitre_84 rfl)) (os_l (so_get (C := R_Wa) (T := F_Wa) (N := 18) (j := 0) in_Wa rfl (by decide) mw_217 d_Wa_movesLitre_85)))) (os_n (os_n (os_l (so_iload_n d_Wa_movesLitre_88 rfl)) (os_l (so_iload_n d_Wa_movesLitre_89 rfl))) (os_n (os_l (so_callV (iv := mi_St_mayCome) rfl rfl rfl mw_1458 mw_1084 mw_1085 mw_4 mw_1086 ⟨by decide +kernel, by decide +kernel, by decide +kernel⟩ (by decide) d_Wa_movesLitre_90)) (os_l (so_ifne d_Wa_movesLitre_93 (by decide))))))))) (os_n (os_n (os_n (os_n (os_n (os_l (so_iconst d_Wa_movesLitre_96 (by decide))) (os_n (os_l (so_zreturn rfl d_Wa_movesLitre_97)) (os_l (so_aload_n d_Wa_movesLitre_98 rfl)))) (os_n (os_l (so_get (C := R_Wa) (T := F_Wa) (N := 18) (j := 0) in_Wa rfl (by decide) mw_217 d_Wa_movesLitre_99)) (os_n (os_l (so_aload_n d_Wa_movesLitre_102 rfl)) (os_l (so_get (C := R_Wa) (T := F_Wa) (N := 18) (j := 2) in_Wa rfl (by decide) mw_220 d_Wa_movesLitre_103))))) (os_n (os_n (os_l (so_iload_n d_Wa_movesLitre_106 rfl)) (os_n (os_l (so_iaload d_Wa_movesLitre_107)) (os_l (so_iconst d_Wa_movesLitre_108 (by decide))))) (os_n (os_n (os_l (so_callV (iv := mi_St_leave) rfl rfl rfl mw_1459 mw_1282 mw_1283 mw_4 mw_1284 ⟨by decide +kernel, by decide +kernel, by decide +kernel⟩ (by decide) d_Wa_movesLitre_109)) (os_l (so_iconst d_Wa_movesLitre_112 (by decide)))) (os_n (os_l (so_istore d_Wa_movesLitre_113 (by decide))) (os_l (so_aload_n d_Wa_movesLitre_115 rfl)))))) (os_n (os_n (os_n (os_l (so_get (C := R_Wa) (T := F_Wa) (N := 18) (j := 7) in_Wa rfl (by decide) mw_225 d_Wa_movesLitre_116)) (os_n (os_l (so_iload_n d_Wa_movesLitre_119 rfl)) (os_l (so_iaload d_Wa_movesLitre_120)))) (os_n (os_n (os_l (so_istore d_Wa_movesLitre_121 (by decide))) (os_l (so_iconst d_Wa_movesLitre_123 (by decide)))) (os_n (os_l (so_istore d_Wa_movesLitre_124 (by decide))) (os_l (so_iload d_Wa_movesLitre_126))))) (os_n (os_n (os_l (so_aload_n d_Wa_movesLitre_128 rfl)) (os_n (os_l (so_get (C := R_Wa) (T := F_Wa) (N := 18) (j := 6) in_Wa rfl (by decide) mw_224 d_Wa_movesLitre_129)) (os_l (so_iload_n d_Wa_movesLitre_132 rfl)))) (os_n (os_n (os_l (so_iaload d_Wa_movesLitre_133)) (os_l (so_icge d_Wa_movesLitre_134 (by decide)))) (os_n (os_l (so_iload d_Wa_movesLitre_137)) (os_l (so_iflt d_Wa_movesLitre_139 (by decide)))))))) (os_n (os_n (os_n (os_n (os_l (so_aload_n d_Wa_movesLitre_142 rfl)) (os_n (os_l (so_get (C := R_Wa) (T := F_Wa) (N := 18) (j := 0) in_Wa rfl (by decide) mw_217 d_Wa_movesLitre_143)) (os_l (so_iload d_Wa_movesLitre_146)))) (os_n (os_l (so_aload_n d_Wa_movesLitre_148 rfl)) (os_n (os_l (so_iload d_Wa_movesLitre_149)) (os_l (so_callV (iv := mi_Wa_goesForth) rfl rfl rfl mw_1442 mw_1444 sl_85 mw_7 mw_1445 ⟨by decide +kernel, by decide +kernel, by decide +kernel⟩ (by decide) d_Wa_movesLitre_151))))) (os_n (os_n (os_l (so_iload d_Wa_movesLitre_154)) (os_n (os_l (so_iload_n d_Wa_movesLitre_156 rfl)) (os_l (so_callV (iv := mi_St_push) rfl rfl rfl mw_1460 mw_1461 mw_1462 mw_4 mw_1463 ⟨by decide +kernel, by decide +kernel, by decide +kernel⟩ (by decide) d_Wa_movesLitre_157)))) (os_n (os_n (os_l (so_istore d_Wa_movesLitre_160 (by decide))) (os_l (so_aload_n d_Wa_movesLitre_162 rfl))) (os_n (os_l (so_get (C := R_Wa) (T := F_Wa) (N := 18) (j := 10) in_Wa rfl (by decide) mw_228 d_Wa_movesLitre_163)) (os_l (so_iload d_Wa_movesLitre_166)))))) (os_n (os_n (os_n (os_l (so_iaload d_Wa_movesLitre_168)) (os_n (os_l (so_istore d_Wa_movesLitre_169 (by decide))) (os_l (so_iinc d_Wa_movesLitre_171 (by decide) (by decide))))) (os_n (os_n (os_l (so_goto d_Wa_movesLitre_174 (by decide))) (os_l (so_iload d_Wa_movesLitre_177))) (os_n (os_l (so_ifeq d_Wa_movesLitre_179 (by decide))) (os_l (so_aload_n d_Wa_movesLitre_182 rfl))))) (os_n (os_n (os_l (so_get (C := R_Wa) (T := F_Wa) (N := 18) (j := 0) in_Wa rfl (by decide) mw_217 d_Wa_movesLitre_183)) (os_n (os_l (so_iload_n d_Wa_movesLitre_186 rfl)) (os_l (so_iload_n d_Wa_movesLitre_187 rfl)))) (os_n (os_n (os_l (so_iconst d_Wa_movesLitre_188 (by decide))) (os_l (so_callV (iv := mi_St_arrive) rfl rfl rfl mw_1467 mw_1130 mw_1131 mw_4 mw_1132 ⟨by decide +kernel, by decide +kernel, by decide +kernel⟩ (by decide) d_Wa_movesLitre_189))) (os_n (os_l (so_iconst d_Wa_movesLitre_192 (by decide))) (os_l (so_zreturn rfl d_Wa_movesLitre_193)))))))))
abbrev t_Wa_goesForth_17 : List UInt8 := 172 :: []
abbrev t_Wa_goesForth_16 : List UInt8 := 3 :: t_Wa_goesForth_17
abbrev t_Wa_goesForth_13 : List UInt8 := 167 :: 0 :: 4 :: t_Wa_goesForth_16
abbrev t_Wa_goesForth_12 : List UInt8 := 4 :: t_Wa_goesForth_13
abbrev t_Wa_goesForth_9 : List UInt8 := 160 :: 0 :: 7 :: t_Wa_goesForth_12
abbrev t_Wa_goesForth_8 : List UInt8 := 4 :: t_Wa_goesForth_9
abbrev t_Wa_goesForth_7 : List UInt8 := 126 :: t_Wa_goesForth_8
abbrev t_Wa_goesForth_6 : List UInt8 := 4 :: t_Wa_goesForth_7
abbrev t_Wa_goesForth_5 : List UInt8 := 46 :: t_Wa_goesForth_6
abbrev t_Wa_goesForth_4 : List UInt8 := 27 :: t_Wa_goesForth_5
abbrev t_Wa_goesForth_1 : List UInt8 := 180 :: 0 :: 33 :: t_Wa_goesForth_4
abbrev t_Wa_goesForth_0 : List UInt8 := 42 :: t_Wa_goesForth_1
theorem a_Wa_goesForth_0 : dk_at b_Wa_goesForth 0 t_Wa_goesForth_0 := dk_start (by decide +kernel)
theorem a_Wa_goesForth_1 : dk_at b_Wa_goesForth 1 t_Wa_goesForth_1 := dk_go 1 a_Wa_goesForth_0 rfl
theorem a_Wa_goesForth_4 : dk_at b_Wa_goesForth 4 t_Wa_goesForth_4 := dk_go 3 a_Wa_goesForth_1 rfl
theorem a_Wa_goesForth_5 : dk_at b_Wa_goesForth 5 t_Wa_goesForth_5 := dk_go 1 a_Wa_goesForth_4 rfl
theorem a_Wa_goesForth_6 : dk_at b_Wa_goesForth 6 t_Wa_goesForth_6 := dk_go 1 a_Wa_goesForth_5 rfl
theorem a_Wa_goesForth_7 : dk_at b_Wa_goesForth 7 t_Wa_goesForth_7 := dk_go 1 a_Wa_goesForth_6 rfl
theorem a_Wa_goesForth_8 : dk_at b_Wa_goesForth 8 t_Wa_goesForth_8 := dk_go 1 a_Wa_goesForth_7 rfl
theorem a_Wa_goesForth_9 : dk_at b_Wa_goesForth 9 t_Wa_goesForth_9 := dk_go 1 a_Wa_goesForth_8 rfl
theorem a_Wa_goesForth_12 : dk_at b_Wa_goesForth 12 t_Wa_goesForth_12 := dk_go 3 a_Wa_goesForth_9 rfl
theorem a_Wa_goesForth_13 : dk_at b_Wa_goesForth 13 t_Wa_goesForth_13 := dk_go 1 a_Wa_goesForth_12 rfl
theorem a_Wa_goesForth_16 : dk_at b_Wa_goesForth 16 t_Wa_goesForth_16 := dk_go 3 a_Wa_goesForth_13 rfl
theorem a_Wa_goesForth_17 : dk_at b_Wa_goesForth 17 t_Wa_goesForth_17 := dk_go 1 a_Wa_goesForth_16 rfl
theorem d_Wa_goesForth_0 : decode b_Wa_goesForth 0 = .ok (.aload_n 0, 1) := dk_0 a_Wa_goesForth_0 (dko_42 _)
theorem d_Wa_goesForth_1 : decode b_Wa_goesForth 1 = .ok (.getfield 33, 3) := dk_U2 a_Wa_goesForth_1 (dko_180 _) rfl
theorem d_Wa_goesForth_4 : decode b_Wa_goesForth 4 = .ok (.iload_n 1, 1) := dk_0 a_Wa_goesForth_4 (dko_27 _)
theorem d_Wa_goesForth_5 : decode b_Wa_goesForth 5 = .ok (.iaload, 1) := dk_0 a_Wa_goesForth_5 (dko_46 _)
theorem d_Wa_goesForth_6 : decode b_Wa_goesForth 6 = .ok (.iconst 1, 1) := dk_0 a_Wa_goesForth_6 (dko_4 _)
theorem d_Wa_goesForth_7 : decode b_Wa_goesForth 7 = .ok (.iand, 1) := dk_0 a_Wa_goesForth_7 (dko_126 _)
theorem d_Wa_goesForth_8 : decode b_Wa_goesForth 8 = .ok (.iconst 1, 1) := dk_0 a_Wa_goesForth_8 (dko_4 _)
theorem d_Wa_goesForth_9 : decode b_Wa_goesForth 9 = .ok (.if_icmp .ne 7, 3) := dk_S2 a_Wa_goesForth_9 (dko_160 _) (by decide +kernel)
theorem d_Wa_goesForth_12 : decode b_Wa_goesForth 12 = .ok (.iconst 1, 1) := dk_0 a_Wa_goesForth_12 (dko_4 _)
theorem d_Wa_goesForth_13 : decode b_Wa_goesForth 13 = .ok (.goto 4, 3) := dk_S2 a_Wa_goesForth_13 (dko_167 _) (by decide +kernel)
theorem d_Wa_goesForth_16 : decode b_Wa_goesForth 16 = .ok (.iconst 0, 1) := dk_0 a_Wa_goesForth_16 (dko_3 _)
theorem d_Wa_goesForth_17 : decode b_Wa_goesForth 17 = .ok (.ireturn, 1) := dk_0 a_Wa_goesForth_17 (dko_172 _)
set_option maxHeartbeats 4000000 in
set_option maxRecDepth 100000 in
theorem ok_Wa_goesForth (pc : Nat) : OpS mt mi_Wa_goesForth pc (cs_Wa_goesForth pc) := (os_n (os_n (os_n (os_l (so_aload_n d_Wa_goesForth_0 rfl)) (os_n (os_l (so_get (C := R_Wa) (T := F_Wa) (N := 18) (j := 9) in_Wa rfl (by decide) mw_227 d_Wa_goesForth_1)) (os_l (so_iload_n d_Wa_goesForth_4 rfl)))) (os_n (os_l (so_iaload d_Wa_goesForth_5)) (os_n (os_l (so_iconst d_Wa_goesForth_6 (by decide))) (os_l (so_iand d_Wa_goesForth_7))))) (os_n (os_n (os_l (so_iconst d_Wa_goesForth_8 (by decide))) (os_n (os_l (so_icne d_Wa_goesForth_9 (by decide))) (os_l (so_iconst d_Wa_goesForth_12 (by decide))))) (os_n (os_l (so_goto d_Wa_goesForth_13 (by decide))) (os_n (os_l (so_iconst d_Wa_goesForth_16 (by decide))) (os_l (so_zreturn rfl d_Wa_goesForth_17))))))
abbrev t_Wa_addSources_103 : List UInt8 := 177 :: []
abbrev t_Wa_addSources_100 : List UInt8 := 167 :: 255 :: 169 :: t_Wa_addSources_103
abbrev t_Wa_addSources_97 : List UInt8 := 132 :: 3 :: 1 :: t_Wa_addSources_100
abbrev t_Wa_addSources_96 : List UInt8 := 80 :: t_Wa_addSources_97
abbrev t_Wa_addSources_95 : List UInt8 := 129 :: t_Wa_addSources_96
abbrev t_Wa_addSources_93 : List UInt8 := 22 :: 4 :: t_Wa_addSources_95
abbrev t_Wa_addSources_92 : List UInt8 := 47 :: t_Wa_addSources_93
abbrev t_Wa_addSources_91 : List UInt8 := 92 :: t_Wa_addSources_92
abbrev t_Wa_addSources_90 : List UInt8 := 46 :: t_Wa_addSources_91
abbrev t_Wa_addSources_89 : List UInt8 := 29 :: t_Wa_addSources_90
abbrev t_Wa_addSources_86 : List UInt8 := 180 :: 0 :: 21 :: t_Wa_addSources_89
abbrev t_Wa_addSources_85 : List UInt8 := 42 :: t_Wa_addSources_86
abbrev t_Wa_addSources_84 : List UInt8 := 43 :: t_Wa_addSources_85
abbrev t_Wa_addSources_81 : List UInt8 := 167 :: 255 :: 217 :: t_Wa_addSources_84
abbrev t_Wa_addSources_78 : List UInt8 := 132 :: 7 :: 1 :: t_Wa_addSources_81
abbrev t_Wa_addSources_76 : List UInt8 := 54 :: 6 :: t_Wa_addSources_78
abbrev t_Wa_addSources_75 : List UInt8 := 46 :: t_Wa_addSources_76
abbrev t_Wa_addSources_73 : List UInt8 := 21 :: 6 :: t_Wa_addSources_75
abbrev t_Wa_addSources_70 : List UInt8 := 180 :: 0 :: 36 :: t_Wa_addSources_73
abbrev t_Wa_addSources_69 : List UInt8 := 42 :: t_Wa_addSources_70
abbrev t_Wa_addSources_67 : List UInt8 := 55 :: 4 :: t_Wa_addSources_69
abbrev t_Wa_addSources_66 : List UInt8 := 129 :: t_Wa_addSources_67
abbrev t_Wa_addSources_65 : List UInt8 := 121 :: t_Wa_addSources_66
abbrev t_Wa_addSources_64 : List UInt8 := 96 :: t_Wa_addSources_65
abbrev t_Wa_addSources_62 : List UInt8 := 21 :: 6 :: t_Wa_addSources_64
abbrev t_Wa_addSources_61 : List UInt8 := 28 :: t_Wa_addSources_62
abbrev t_Wa_addSources_60 : List UInt8 := 10 :: t_Wa_addSources_61
abbrev t_Wa_addSources_58 : List UInt8 := 22 :: 4 :: t_Wa_addSources_60
abbrev t_Wa_addSources_55 : List UInt8 := 155 :: 0 :: 29 :: t_Wa_addSources_58
abbrev t_Wa_addSources_53 : List UInt8 := 21 :: 6 :: t_Wa_addSources_55
abbrev t_Wa_addSources_50 : List UInt8 := 162 :: 0 :: 34 :: t_Wa_addSources_53
abbrev t_Wa_addSources_49 : List UInt8 := 46 :: t_Wa_addSources_50
abbrev t_Wa_addSources_48 : List UInt8 := 29 :: t_Wa_addSources_49
abbrev t_Wa_addSources_45 : List UInt8 := 180 :: 0 :: 24 :: t_Wa_addSources_48
abbrev t_Wa_addSources_44 : List UInt8 := 42 :: t_Wa_addSources_45
abbrev t_Wa_addSources_42 : List UInt8 := 21 :: 7 :: t_Wa_addSources_44
abbrev t_Wa_addSources_40 : List UInt8 := 54 :: 7 :: t_Wa_addSources_42
abbrev t_Wa_addSources_39 : List UInt8 := 3 :: t_Wa_addSources_40
abbrev t_Wa_addSources_37 : List UInt8 := 54 :: 6 :: t_Wa_addSources_39
abbrev t_Wa_addSources_36 : List UInt8 := 46 :: t_Wa_addSources_37
abbrev t_Wa_addSources_35 : List UInt8 := 29 :: t_Wa_addSources_36
abbrev t_Wa_addSources_32 : List UInt8 := 180 :: 0 :: 27 :: t_Wa_addSources_35
abbrev t_Wa_addSources_31 : List UInt8 := 42 :: t_Wa_addSources_32
abbrev t_Wa_addSources_29 : List UInt8 := 55 :: 4 :: t_Wa_addSources_31
abbrev t_Wa_addSources_28 : List UInt8 := 121 :: t_Wa_addSources_29
abbrev t_Wa_addSources_27 : List UInt8 := 46 :: t_Wa_addSources_28
abbrev t_Wa_addSources_26 : List UInt8 := 29 :: t_Wa_addSources_27
abbrev t_Wa_addSources_23 : List UInt8 := 180 :: 0 :: 15 :: t_Wa_addSources_26
abbrev t_Wa_addSources_22 : List UInt8 := 42 :: t_Wa_addSources_23
abbrev t_Wa_addSources_21 : List UInt8 := 10 :: t_Wa_addSources_22
abbrev t_Wa_addSources_18 : List UInt8 := 162 :: 0 :: 85 :: t_Wa_addSources_21
abbrev t_Wa_addSources_15 : List UInt8 := 180 :: 0 :: 65 :: t_Wa_addSources_18
abbrev t_Wa_addSources_14 : List UInt8 := 42 :: t_Wa_addSources_15
abbrev t_Wa_addSources_13 : List UInt8 := 29 :: t_Wa_addSources_14
abbrev t_Wa_addSources_12 : List UInt8 := 62 :: t_Wa_addSources_13
abbrev t_Wa_addSources_11 : List UInt8 := 3 :: t_Wa_addSources_12
abbrev t_Wa_addSources_10 : List UInt8 := 61 :: t_Wa_addSources_11
abbrev t_Wa_addSources_7 : List UInt8 := 180 :: 0 :: 85 :: t_Wa_addSources_10
abbrev t_Wa_addSources_4 : List UInt8 := 180 :: 0 :: 81 :: t_Wa_addSources_7
abbrev t_Wa_addSources_1 : List UInt8 := 180 :: 0 :: 58 :: t_Wa_addSources_4
abbrev t_Wa_addSources_0 : List UInt8 := 42 :: t_Wa_addSources_1
theorem a_Wa_addSources_0 : dk_at b_Wa_addSources 0 t_Wa_addSources_0 := dk_start (by decide +kernel)
theorem a_Wa_addSources_1 : dk_at b_Wa_addSources 1 t_Wa_addSources_1 := dk_go 1 a_Wa_addSources_0 rfl
theorem a_Wa_addSources_4 : dk_at b_Wa_addSources 4 t_Wa_addSources_4 := dk_go 3 a_Wa_addSources_1 rfl
theorem a_Wa_addSources_7 : dk_at b_Wa_addSources 7 t_Wa_addSources_7 := dk_go 3 a_Wa_addSources_4 rfl
theorem a_Wa_addSources_10 : dk_at b_Wa_addSources 10 t_Wa_addSources_10 := dk_go 3 a_Wa_addSources_7 rfl
theorem a_Wa_addSources_11 : dk_at b_Wa_addSources 11 t_Wa_addSources_11 := dk_go 1 a_Wa_addSources_10 rfl
theorem a_Wa_addSources_12 : dk_at b_Wa_addSources 12 t_Wa_addSources_12 := dk_go 1 a_Wa_addSources_11 rfl
theorem a_Wa_addSources_13 : dk_at b_Wa_addSources 13 t_Wa_addSources_13 := dk_go 1 a_Wa_addSources_12 rfl
theorem a_Wa_addSources_14 : dk_at b_Wa_addSources 14 t_Wa_addSources_14 := dk_go 1 a_Wa_addSources_13 rfl
theorem a_Wa_addSources_15 : dk_at b_Wa_addSources 15 t_Wa_addSources_15 := dk_go 1 a_Wa_addSources_14 rfl
theorem a_Wa_addSources_18 : dk_at b_Wa_addSources 18 t_Wa_addSources_18 := dk_go 3 a_Wa_addSources_15 rfl
theorem a_Wa_addSources_21 : dk_at b_Wa_addSources 21 t_Wa_addSources_21 := dk_go 3 a_Wa_addSources_18 rfl
theorem a_Wa_addSources_22 : dk_at b_Wa_addSources 22 t_Wa_addSources_22 := dk_go 1 a_Wa_addSources_21 rfl
theorem a_Wa_addSources_23 : dk_at b_Wa_addSources 23 t_Wa_addSources_23 := dk_go 1 a_Wa_addSources_22 rfl
theorem a_Wa_addSources_26 : dk_at b_Wa_addSources 26 t_Wa_addSources_26 := dk_go 3 a_Wa_addSources_23 rfl
theorem a_Wa_addSources_27 : dk_at b_Wa_addSources 27 t_Wa_addSources_27 := dk_go 1 a_Wa_addSources_26 rfl
theorem a_Wa_addSources_28 : dk_at b_Wa_addSources 28 t_Wa_addSources_28 := dk_go 1 a_Wa_addSources_27 rfl
theorem a_Wa_addSources_29 : dk_at b_Wa_addSources 29 t_Wa_addSources_29 := dk_go 1 a_Wa_addSources_28 rfl
theorem a_Wa_addSources_31 : dk_at b_Wa_addSources 31 t_Wa_addSources_31 := dk_go 2 a_Wa_addSources_29 rfl
theorem a_Wa_addSources_32 : dk_at b_Wa_addSources 32 t_Wa_addSources_32 := dk_go 1 a_Wa_addSources_31 rfl
theorem a_Wa_addSources_35 : dk_at b_Wa_addSources 35 t_Wa_addSources_35 := dk_go 3 a_Wa_addSources_32 rfl
theorem a_Wa_addSources_36 : dk_at b_Wa_addSources 36 t_Wa_addSources_36 := dk_go 1 a_Wa_addSources_35 rfl
theorem a_Wa_addSources_37 : dk_at b_Wa_addSources 37 t_Wa_addSources_37 := dk_go 1 a_Wa_addSources_36 rfl
theorem a_Wa_addSources_39 : dk_at b_Wa_addSources 39 t_Wa_addSources_39 := dk_go 2 a_Wa_addSources_37 rfl
theorem a_Wa_addSources_40 : dk_at b_Wa_addSources 40 t_Wa_addSources_40 := dk_go 1 a_Wa_addSources_39 rfl
theorem a_Wa_addSources_42 : dk_at b_Wa_addSources 42 t_Wa_addSources_42 := dk_go 2 a_Wa_addSources_40 rfl
theorem a_Wa_addSources_44 : dk_at b_Wa_addSources 44 t_Wa_addSources_44 := dk_go 2 a_Wa_addSources_42 rfl
theorem a_Wa_addSources_45 : dk_at b_Wa_addSources 45 t_Wa_addSources_45 := dk_go 1 a_Wa_addSources_44 rfl
theorem a_Wa_addSources_48 : dk_at b_Wa_addSources 48 t_Wa_addSources_48 := dk_go 3 a_Wa_addSources_45 rfl
theorem a_Wa_addSources_49 : dk_at b_Wa_addSources 49 t_Wa_addSources_49 := dk_go 1 a_Wa_addSources_48 rfl
theorem a_Wa_addSources_50 : dk_at b_Wa_addSources 50 t_Wa_addSources_50 := dk_go 1 a_Wa_addSources_49 rfl
theorem a_Wa_addSources_53 : dk_at b_Wa_addSources 53 t_Wa_addSources_53 := dk_go 3 a_Wa_addSources_50 rfl
theorem a_Wa_addSources_55 : dk_at b_Wa_addSources 55 t_Wa_addSources_55 := dk_go 2 a_Wa_addSources_53 rfl
theorem a_Wa_addSources_58 : dk_at b_Wa_addSources 58 t_Wa_addSources_58 := dk_go 3 a_Wa_addSources_55 rfl
theorem a_Wa_addSources_60 : dk_at b_Wa_addSources 60 t_Wa_addSources_60 := dk_go 2 a_Wa_addSources_58 rfl
theorem a_Wa_addSources_61 : dk_at b_Wa_addSources 61 t_Wa_addSources_61 := dk_go 1 a_Wa_addSources_60 rfl
theorem a_Wa_addSources_62 : dk_at b_Wa_addSources 62 t_Wa_addSources_62 := dk_go 1 a_Wa_addSources_61 rfl
theorem a_Wa_addSources_64 : dk_at b_Wa_addSources 64 t_Wa_addSources_64 := dk_go 2 a_Wa_addSources_62 rfl
theorem a_Wa_addSources_65 : dk_at b_Wa_addSources 65 t_Wa_addSources_65 := dk_go 1 a_Wa_addSources_64 rfl
theorem a_Wa_addSources_66 : dk_at b_Wa_addSources 66 t_Wa_addSources_66 := dk_go 1 a_Wa_addSources_65 rfl
theorem a_Wa_addSources_67 : dk_at b_Wa_addSources 67 t_Wa_addSources_67 := dk_go 1 a_Wa_addSources_66 rfl
theorem a_Wa_addSources_69 : dk_at b_Wa_addSources 69 t_Wa_addSources_69 := dk_go 2 a_Wa_addSources_67 rfl
theorem a_Wa_addSources_70 : dk_at b_Wa_addSources 70 t_Wa_addSources_70 := dk_go 1 a_Wa_addSources_69 rfl
theorem a_Wa_addSources_73 : dk_at b_Wa_addSources 73 t_Wa_addSources_73 := dk_go 3 a_Wa_addSources_70 rfl
theorem a_Wa_addSources_75 : dk_at b_Wa_addSources 75 t_Wa_addSources_75 := dk_go 2 a_Wa_addSources_73 rfl
theorem a_Wa_addSources_76 : dk_at b_Wa_addSources 76 t_Wa_addSources_76 := dk_go 1 a_Wa_addSources_75 rfl
theorem a_Wa_addSources_78 : dk_at b_Wa_addSources 78 t_Wa_addSources_78 := dk_go 2 a_Wa_addSources_76 rfl
theorem a_Wa_addSources_81 : dk_at b_Wa_addSources 81 t_Wa_addSources_81 := dk_go 3 a_Wa_addSources_78 rfl
theorem a_Wa_addSources_84 : dk_at b_Wa_addSources 84 t_Wa_addSources_84 := dk_go 3 a_Wa_addSources_81 rfl
theorem a_Wa_addSources_85 : dk_at b_Wa_addSources 85 t_Wa_addSources_85 := dk_go 1 a_Wa_addSources_84 rfl
theorem a_Wa_addSources_86 : dk_at b_Wa_addSources 86 t_Wa_addSources_86 := dk_go 1 a_Wa_addSources_85 rfl
theorem a_Wa_addSources_89 : dk_at b_Wa_addSources 89 t_Wa_addSources_89 := dk_go 3 a_Wa_addSources_86 rfl
theorem a_Wa_addSources_90 : dk_at b_Wa_addSources 90 t_Wa_addSources_90 := dk_go 1 a_Wa_addSources_89 rfl
theorem a_Wa_addSources_91 : dk_at b_Wa_addSources 91 t_Wa_addSources_91 := dk_go 1 a_Wa_addSources_90 rfl
theorem a_Wa_addSources_92 : dk_at b_Wa_addSources 92 t_Wa_addSources_92 := dk_go 1 a_Wa_addSources_91 rfl
theorem a_Wa_addSources_93 : dk_at b_Wa_addSources 93 t_Wa_addSources_93 := dk_go 1 a_Wa_addSources_92 rfl
theorem a_Wa_addSources_95 : dk_at b_Wa_addSources 95 t_Wa_addSources_95 := dk_go 2 a_Wa_addSources_93 rfl
theorem a_Wa_addSources_96 : dk_at b_Wa_addSources 96 t_Wa_addSources_96 := dk_go 1 a_Wa_addSources_95 rfl
theorem a_Wa_addSources_97 : dk_at b_Wa_addSources 97 t_Wa_addSources_97 := dk_go 1 a_Wa_addSources_96 rfl
theorem a_Wa_addSources_100 : dk_at b_Wa_addSources 100 t_Wa_addSources_100 := dk_go 3 a_Wa_addSources_97 rfl
theorem a_Wa_addSources_103 : dk_at b_Wa_addSources 103 t_Wa_addSources_103 := dk_go 3 a_Wa_addSources_100 rfl
theorem d_Wa_addSources_0 : decode b_Wa_addSources 0 = .ok (.aload_n 0, 1) := dk_0 a_Wa_addSources_0 (dko_42 _)
theorem d_Wa_addSources_1 : decode b_Wa_addSources 1 = .ok (.getfield 58, 3) := dk_U2 a_Wa_addSources_1 (dko_180 _) rfl
theorem d_Wa_addSources_4 : decode b_Wa_addSources 4 = .ok (.getfield 81, 3) := dk_U2 a_Wa_addSources_4 (dko_180 _) rfl
theorem d_Wa_addSources_7 : decode b_Wa_addSources 7 = .ok (.getfield 85, 3) := dk_U2 a_Wa_addSources_7 (dko_180 _) rfl
theorem d_Wa_addSources_10 : decode b_Wa_addSources 10 = .ok (.istore_n 2, 1) := dk_0 a_Wa_addSources_10 (dko_61 _)
theorem d_Wa_addSources_11 : decode b_Wa_addSources 11 = .ok (.iconst 0, 1) := dk_0 a_Wa_addSources_11 (dko_3 _)
theorem d_Wa_addSources_12 : decode b_Wa_addSources 12 = .ok (.istore_n 3, 1) := dk_0 a_Wa_addSources_12 (dko_62 _)
theorem d_Wa_addSources_13 : decode b_Wa_addSources 13 = .ok (.iload_n 3, 1) := dk_0 a_Wa_addSources_13 (dko_29 _)
theorem d_Wa_addSources_14 : decode b_Wa_addSources 14 = .ok (.aload_n 0, 1) := dk_0 a_Wa_addSources_14 (dko_42 _)
theorem d_Wa_addSources_15 : decode b_Wa_addSources 15 = .ok (.getfield 65, 3) := dk_U2 a_Wa_addSources_15 (dko_180 _) rfl
theorem d_Wa_addSources_18 : decode b_Wa_addSources 18 = .ok (.if_icmp .ge 85, 3) := dk_S2 a_Wa_addSources_18 (dko_162 _) (by decide +kernel)
theorem d_Wa_addSources_21 : decode b_Wa_addSources 21 = .ok (.lconst 1, 1) := dk_0 a_Wa_addSources_21 (dko_10 _)
theorem d_Wa_addSources_22 : decode b_Wa_addSources 22 = .ok (.aload_n 0, 1) := dk_0 a_Wa_addSources_22 (dko_42 _)
theorem d_Wa_addSources_23 : decode b_Wa_addSources 23 = .ok (.getfield 15, 3) := dk_U2 a_Wa_addSources_23 (dko_180 _) rfl
theorem d_Wa_addSources_26 : decode b_Wa_addSources 26 = .ok (.iload_n 3, 1) := dk_0 a_Wa_addSources_26 (dko_29 _)
theorem d_Wa_addSources_27 : decode b_Wa_addSources 27 = .ok (.iaload, 1) := dk_0 a_Wa_addSources_27 (dko_46 _)
theorem d_Wa_addSources_28 : decode b_Wa_addSources 28 = .ok (.lshl, 1) := dk_0 a_Wa_addSources_28 (dko_121 _)
theorem d_Wa_addSources_29 : decode b_Wa_addSources 29 = .ok (.lstore 4, 2) := dk_U1 a_Wa_addSources_29 (dko_55 _) rfl
theorem d_Wa_addSources_31 : decode b_Wa_addSources 31 = .ok (.aload_n 0, 1) := dk_0 a_Wa_addSources_31 (dko_42 _)
theorem d_Wa_addSources_32 : decode b_Wa_addSources 32 = .ok (.getfield 27, 3) := dk_U2 a_Wa_addSources_32 (dko_180 _) rfl
theorem d_Wa_addSources_35 : decode b_Wa_addSources 35 = .ok (.iload_n 3, 1) := dk_0 a_Wa_addSources_35 (dko_29 _)
theorem d_Wa_addSources_36 : decode b_Wa_addSources 36 = .ok (.iaload, 1) := dk_0 a_Wa_addSources_36 (dko_46 _)
theorem d_Wa_addSources_37 : decode b_Wa_addSources 37 = .ok (.istore 6, 2) := dk_U1 a_Wa_addSources_37 (dko_54 _) rfl
theorem d_Wa_addSources_39 : decode b_Wa_addSources 39 = .ok (.iconst 0, 1) := dk_0 a_Wa_addSources_39 (dko_3 _)
theorem d_Wa_addSources_40 : decode b_Wa_addSources 40 = .ok (.istore 7, 2) := dk_U1 a_Wa_addSources_40 (dko_54 _) rfl
theorem d_Wa_addSources_42 : decode b_Wa_addSources 42 = .ok (.iload 7, 2) := dk_U1 a_Wa_addSources_42 (dko_21 _) rfl
theorem d_Wa_addSources_44 : decode b_Wa_addSources 44 = .ok (.aload_n 0, 1) := dk_0 a_Wa_addSources_44 (dko_42 _)
theorem d_Wa_addSources_45 : decode b_Wa_addSources 45 = .ok (.getfield 24, 3) := dk_U2 a_Wa_addSources_45 (dko_180 _) rfl
theorem d_Wa_addSources_48 : decode b_Wa_addSources 48 = .ok (.iload_n 3, 1) := dk_0 a_Wa_addSources_48 (dko_29 _)
theorem d_Wa_addSources_49 : decode b_Wa_addSources 49 = .ok (.iaload, 1) := dk_0 a_Wa_addSources_49 (dko_46 _)
theorem d_Wa_addSources_50 : decode b_Wa_addSources 50 = .ok (.if_icmp .ge 34, 3) := dk_S2 a_Wa_addSources_50 (dko_162 _) (by decide +kernel)
theorem d_Wa_addSources_53 : decode b_Wa_addSources 53 = .ok (.iload 6, 2) := dk_U1 a_Wa_addSources_53 (dko_21 _) rfl
theorem d_Wa_addSources_55 : decode b_Wa_addSources 55 = .ok (.ifCond .lt 29, 3) := dk_S2 a_Wa_addSources_55 (dko_155 _) (by decide +kernel)
theorem d_Wa_addSources_58 : decode b_Wa_addSources 58 = .ok (.lload 4, 2) := dk_U1 a_Wa_addSources_58 (dko_22 _) rfl
theorem d_Wa_addSources_60 : decode b_Wa_addSources 60 = .ok (.lconst 1, 1) := dk_0 a_Wa_addSources_60 (dko_10 _)
theorem d_Wa_addSources_61 : decode b_Wa_addSources 61 = .ok (.iload_n 2, 1) := dk_0 a_Wa_addSources_61 (dko_28 _)
theorem d_Wa_addSources_62 : decode b_Wa_addSources 62 = .ok (.iload 6, 2) := dk_U1 a_Wa_addSources_62 (dko_21 _) rfl
theorem d_Wa_addSources_64 : decode b_Wa_addSources 64 = .ok (.iadd, 1) := dk_0 a_Wa_addSources_64 (dko_96 _)
theorem d_Wa_addSources_65 : decode b_Wa_addSources 65 = .ok (.lshl, 1) := dk_0 a_Wa_addSources_65 (dko_121 _)
theorem d_Wa_addSources_66 : decode b_Wa_addSources 66 = .ok (.lor, 1) := dk_0 a_Wa_addSources_66 (dko_129 _)
theorem d_Wa_addSources_67 : decode b_Wa_addSources 67 = .ok (.lstore 4, 2) := dk_U1 a_Wa_addSources_67 (dko_55 _) rfl
theorem d_Wa_addSources_69 : decode b_Wa_addSources 69 = .ok (.aload_n 0, 1) := dk_0 a_Wa_addSources_69 (dko_42 _)
theorem d_Wa_addSources_70 : decode b_Wa_addSources 70 = .ok (.getfield 36, 3) := dk_U2 a_Wa_addSources_70 (dko_180 _) rfl
theorem d_Wa_addSources_73 : decode b_Wa_addSources 73 = .ok (.iload 6, 2) := dk_U1 a_Wa_addSources_73 (dko_21 _) rfl
theorem d_Wa_addSources_75 : decode b_Wa_addSources 75 = .ok (.iaload, 1) := dk_0 a_Wa_addSources_75 (dko_46 _)
theorem d_Wa_addSources_76 : decode b_Wa_addSources 76 = .ok (.istore 6, 2) := dk_U1 a_Wa_addSources_76 (dko_54 _) rfl
theorem d_Wa_addSources_78 : decode b_Wa_addSources 78 = .ok (.iinc 7 1, 3) := dk_US a_Wa_addSources_78 (dko_132 _) (by decide +kernel)
theorem d_Wa_addSources_81 : decode b_Wa_addSources 81 = .ok (.goto (-39), 3) := dk_S2 a_Wa_addSources_81 (dko_167 _) (by decide +kernel)
theorem d_Wa_addSources_84 : decode b_Wa_addSources 84 = .ok (.aload_n 1, 1) := dk_0 a_Wa_addSources_84 (dko_43 _)
theorem d_Wa_addSources_85 : decode b_Wa_addSources 85 = .ok (.aload_n 0, 1) := dk_0 a_Wa_addSources_85 (dko_42 _)
theorem d_Wa_addSources_86 : decode b_Wa_addSources 86 = .ok (.getfield 21, 3) := dk_U2 a_Wa_addSources_86 (dko_180 _) rfl
theorem d_Wa_addSources_89 : decode b_Wa_addSources 89 = .ok (.iload_n 3, 1) := dk_0 a_Wa_addSources_89 (dko_29 _)
theorem d_Wa_addSources_90 : decode b_Wa_addSources 90 = .ok (.iaload, 1) := dk_0 a_Wa_addSources_90 (dko_46 _)
theorem d_Wa_addSources_91 : decode b_Wa_addSources 91 = .ok (.dup2, 1) := dk_0 a_Wa_addSources_91 (dko_92 _)
theorem d_Wa_addSources_92 : decode b_Wa_addSources 92 = .ok (.laload, 1) := dk_0 a_Wa_addSources_92 (dko_47 _)
theorem d_Wa_addSources_93 : decode b_Wa_addSources 93 = .ok (.lload 4, 2) := dk_U1 a_Wa_addSources_93 (dko_22 _) rfl
theorem d_Wa_addSources_95 : decode b_Wa_addSources 95 = .ok (.lor, 1) := dk_0 a_Wa_addSources_95 (dko_129 _)
theorem d_Wa_addSources_96 : decode b_Wa_addSources 96 = .ok (.lastore, 1) := dk_0 a_Wa_addSources_96 (dko_80 _)
theorem d_Wa_addSources_97 : decode b_Wa_addSources 97 = .ok (.iinc 3 1, 3) := dk_US a_Wa_addSources_97 (dko_132 _) (by decide +kernel)
theorem d_Wa_addSources_100 : decode b_Wa_addSources 100 = .ok (.goto (-87), 3) := dk_S2 a_Wa_addSources_100 (dko_167 _) (by decide +kernel)
theorem d_Wa_addSources_103 : decode b_Wa_addSources 103 = .ok (.return_, 1) := dk_0 a_Wa_addSources_103 (dko_177 _)
set_option maxHeartbeats 4000000 in
set_option maxRecDepth 100000 in
theorem ok_Wa_addSources (pc : Nat) : OpS mt mi_Wa_addSources pc (cs_Wa_addSources pc) := (os_n (os_n (os_n (os_n (os_n (os_l (so_aload_n d_Wa_addSources_0 rfl)) (os_n (os_l (so_get (C := R_Wa) (T := F_Wa) (N := 18) (j := 0) in_Wa rfl (by decide) mw_217 d_Wa_addSources_1)) (os_l (so_get (C := R_St) (T := F_St) (N := 12) (j := 0) in_St rfl (by decide) mw_152 d_Wa_addSources_4)))) (os_n (os_n (os_l (so_get (C := R_Pl) (T := F_Pl) (N := 12) (j := 0) in_Pl rfl (by decide) mw_90 d_Wa_addSources_7)) (os_l (so_istore_n d_Wa_addSources_10 rfl (by decide)))) (os_n (os_l (so_iconst d_Wa_addSources_11 (by decide))) (os_l (so_istore_n d_Wa_addSources_12 rfl (by decide)))))) (os_n (os_n (os_n (os_l (so_iload_n d_Wa_addSources_13 rfl)) (os_l (so_aload_n d_Wa_addSources_14 rfl))) (os_n (os_l (so_get (C := R_Wa) (T := F_Wa) (N := 18) (j := 1) in_Wa rfl (by decide) mw_218 d_Wa_addSources_15)) (os_l (so_icge d_Wa_addSources_18 (by decide))))) (os_n (os_n (os_l (so_lconst d_Wa_addSources_21 (by decide))) (os_l (so_aload_n d_Wa_addSources_22 rfl))) (os_n (os_l (so_get (C := R_Wa) (T := F_Wa) (N := 18) (j := 3) in_Wa rfl (by decide) mw_221 d_Wa_addSources_23)) (os_l (so_iload_n d_Wa_addSources_26 rfl)))))) (os_n (os_n (os_n (os_l (so_iaload d_Wa_addSources_27)) (os_n (os_l (so_lshl d_Wa_addSources_28)) (os_l (so_lstore d_Wa_addSources_29 (by decide))))) (os_n (os_n (os_l (so_aload_n d_Wa_addSources_31 rfl)) (os_l (so_get (C := R_Wa) (T := F_Wa) (N := 18) (j := 7) in_Wa rfl (by decide) mw_225 d_Wa_addSources_32))) (os_n (os_l (so_iload_n d_Wa_addSources_35 rfl)) (os_l (so_iaload d_Wa_addSources_36))))) (os_n (os_n (os_n (os_l (so_istore d_Wa_addSources_37 (by decide))) (os_l (so_iconst d_Wa_addSources_39 (by decide)))) (os_n (os_l (so_istore d_Wa_addSources_40 (by decide))) (os_l (so_iload d_Wa_addSources_42)))) (os_n (os_n (os_l (so_aload_n d_Wa_addSources_44 rfl)) (os_l (so_get (C := R_Wa) (T := F_Wa) (N := 18) (j := 6) in_Wa rfl (by decide) mw_224 d_Wa_addSources_45))) (os_n (os_l (so_iload_n d_Wa_addSources_48 rfl)) (os_l (so_iaload d_Wa_addSources_49))))))) (os_n (os_n (os_n (os_n (os_l (so_icge d_Wa_addSources_50 (by decide))) (os_n (os_l (so_iload d_Wa_addSources_53)) (os_l (so_iflt d_Wa_addSources_55 (by decide))))) (os_n (os_n (os_l (so_lload d_Wa_addSources_58)) (os_l (so_lconst d_Wa_addSources_60 (by decide)))) (os_n (os_l (so_iload_n d_Wa_addSources_61 rfl)) (os_l (so_iload d_Wa_addSources_62))))) (os_n (os_n (os_n (os_l (so_iadd d_Wa_addSources_64)) (os_l (so_lshl d_Wa_addSources_65))) (os_n (os_l (so_lor d_Wa_addSources_66)) (os_l (so_lstore d_Wa_addSources_67 (by decide))))) (os_n (os_n (os_l (so_aload_n d_Wa_addSources_69 rfl)) (os_l (so_get (C := R_Wa) (T := F_Wa) (N := 18) (j := 10) in_Wa rfl (by decide) mw_228 d_Wa_addSources_70))) (os_n (os_l (so_iload d_Wa_addSources_73)) (os_l (so_iaload d_Wa_addSources_75)))))) (os_n (os_n (os_n (os_n (os_l (so_istore d_Wa_addSources_76 (by decide))) (os_l (so_iinc d_Wa_addSources_78 (by decide) (by decide)))) (os_n (os_l (so_goto d_Wa_addSources_81 (by decide))) (os_l (so_aload_n d_Wa_addSources_84 rfl)))) (os_n (os_n (os_l (so_aload_n d_Wa_addSources_85 rfl)) (os_l (so_get (C := R_Wa) (T := F_Wa) (N := 18) (j := 5) in_Wa rfl (by decide) mw_223 d_Wa_addSources_86))) (os_n (os_l (so_iload_n d_Wa_addSources_89 rfl)) (os_l (so_iaload d_Wa_addSources_90))))) (os_n (os_n (os_n (os_l (so_dup2 d_Wa_addSources_91)) (os_l (so_laload d_Wa_addSources_92))) (os_n (os_l (so_lload d_Wa_addSources_93)) (os_l (so_lor d_Wa_addSources_95)))) (os_n (os_n (os_l (so_lastore d_Wa_addSources_96)) (os_l (so_iinc d_Wa_addSources_97 (by decide) (by decide)))) (os_n (os_l (so_goto d_Wa_addSources_100 (by decide))) (os_l (so_return rfl d_Wa_addSources_103))))))))
abbrev t_Mr_unit_45 : List UInt8 := 172 :: []
abbrev t_Mr_unit_44 : List UInt8 := 4 :: t_Mr_unit_45
abbrev t_Mr_unit_41 : List UInt8 := 181 :: 0 :: 59 :: t_Mr_unit_44
abbrev t_Mr_unit_40 : List UInt8 := 96 :: t_Mr_unit_41
abbrev t_Mr_unit_39 : List UInt8 := 4 :: t_Mr_unit_40
abbrev t_Mr_unit_36 : List UInt8 := 180 :: 0 :: 59 :: t_Mr_unit_39
abbrev t_Mr_unit_35 : List UInt8 := 89 :: t_Mr_unit_36
abbrev t_Mr_unit_34 : List UInt8 := 42 :: t_Mr_unit_35
abbrev t_Mr_unit_33 : List UInt8 := 84 :: t_Mr_unit_34
abbrev t_Mr_unit_32 : List UInt8 := 145 :: t_Mr_unit_33
abbrev t_Mr_unit_31 : List UInt8 := 27 :: t_Mr_unit_32
abbrev t_Mr_unit_28 : List UInt8 := 180 :: 0 :: 59 :: t_Mr_unit_31
abbrev t_Mr_unit_27 : List UInt8 := 42 :: t_Mr_unit_28
abbrev t_Mr_unit_24 : List UInt8 := 180 :: 0 :: 11 :: t_Mr_unit_27
abbrev t_Mr_unit_23 : List UInt8 := 42 :: t_Mr_unit_24
abbrev t_Mr_unit_22 : List UInt8 := 172 :: t_Mr_unit_23
abbrev t_Mr_unit_21 : List UInt8 := 3 :: t_Mr_unit_22
abbrev t_Mr_unit_18 : List UInt8 := 160 :: 0 :: 5 :: t_Mr_unit_21
abbrev t_Mr_unit_15 : List UInt8 := 17 :: 15 :: 180 :: t_Mr_unit_18
abbrev t_Mr_unit_12 : List UInt8 := 180 :: 0 :: 59 :: t_Mr_unit_15
abbrev t_Mr_unit_11 : List UInt8 := 42 :: t_Mr_unit_12
abbrev t_Mr_unit_8 : List UInt8 := 163 :: 0 :: 13 :: t_Mr_unit_11
abbrev t_Mr_unit_6 : List UInt8 := 16 :: 127 :: t_Mr_unit_8
abbrev t_Mr_unit_5 : List UInt8 := 27 :: t_Mr_unit_6
abbrev t_Mr_unit_2 : List UInt8 := 161 :: 0 :: 19 :: t_Mr_unit_5
abbrev t_Mr_unit_1 : List UInt8 := 4 :: t_Mr_unit_2
abbrev t_Mr_unit_0 : List UInt8 := 27 :: t_Mr_unit_1
theorem a_Mr_unit_0 : dk_at b_Mr_unit 0 t_Mr_unit_0 := dk_start (by decide +kernel)
theorem a_Mr_unit_1 : dk_at b_Mr_unit 1 t_Mr_unit_1 := dk_go 1 a_Mr_unit_0 rfl
theorem a_Mr_unit_2 : dk_at b_Mr_unit 2 t_Mr_unit_2 := dk_go 1 a_Mr_unit_1 rfl
theorem a_Mr_unit_5 : dk_at b_Mr_unit 5 t_Mr_unit_5 := dk_go 3 a_Mr_unit_2 rfl
theorem a_Mr_unit_6 : dk_at b_Mr_unit 6 t_Mr_unit_6 := dk_go 1 a_Mr_unit_5 rfl
theorem a_Mr_unit_8 : dk_at b_Mr_unit 8 t_Mr_unit_8 := dk_go 2 a_Mr_unit_6 rfl
theorem a_Mr_unit_11 : dk_at b_Mr_unit 11 t_Mr_unit_11 := dk_go 3 a_Mr_unit_8 rfl
theorem a_Mr_unit_12 : dk_at b_Mr_unit 12 t_Mr_unit_12 := dk_go 1 a_Mr_unit_11 rfl
theorem a_Mr_unit_15 : dk_at b_Mr_unit 15 t_Mr_unit_15 := dk_go 3 a_Mr_unit_12 rfl
theorem a_Mr_unit_18 : dk_at b_Mr_unit 18 t_Mr_unit_18 := dk_go 3 a_Mr_unit_15 rfl
theorem a_Mr_unit_21 : dk_at b_Mr_unit 21 t_Mr_unit_21 := dk_go 3 a_Mr_unit_18 rfl
theorem a_Mr_unit_22 : dk_at b_Mr_unit 22 t_Mr_unit_22 := dk_go 1 a_Mr_unit_21 rfl
theorem a_Mr_unit_23 : dk_at b_Mr_unit 23 t_Mr_unit_23 := dk_go 1 a_Mr_unit_22 rfl
theorem a_Mr_unit_24 : dk_at b_Mr_unit 24 t_Mr_unit_24 := dk_go 1 a_Mr_unit_23 rfl
theorem a_Mr_unit_27 : dk_at b_Mr_unit 27 t_Mr_unit_27 := dk_go 3 a_Mr_unit_24 rfl
theorem a_Mr_unit_28 : dk_at b_Mr_unit 28 t_Mr_unit_28 := dk_go 1 a_Mr_unit_27 rfl
theorem a_Mr_unit_31 : dk_at b_Mr_unit 31 t_Mr_unit_31 := dk_go 3 a_Mr_unit_28 rfl
theorem a_Mr_unit_32 : dk_at b_Mr_unit 32 t_Mr_unit_32 := dk_go 1 a_Mr_unit_31 rfl
theorem a_Mr_unit_33 : dk_at b_Mr_unit 33 t_Mr_unit_33 := dk_go 1 a_Mr_unit_32 rfl
theorem a_Mr_unit_34 : dk_at b_Mr_unit 34 t_Mr_unit_34 := dk_go 1 a_Mr_unit_33 rfl
theorem a_Mr_unit_35 : dk_at b_Mr_unit 35 t_Mr_unit_35 := dk_go 1 a_Mr_unit_34 rfl
theorem a_Mr_unit_36 : dk_at b_Mr_unit 36 t_Mr_unit_36 := dk_go 1 a_Mr_unit_35 rfl
theorem a_Mr_unit_39 : dk_at b_Mr_unit 39 t_Mr_unit_39 := dk_go 3 a_Mr_unit_36 rfl
theorem a_Mr_unit_40 : dk_at b_Mr_unit 40 t_Mr_unit_40 := dk_go 1 a_Mr_unit_39 rfl
theorem a_Mr_unit_41 : dk_at b_Mr_unit 41 t_Mr_unit_41 := dk_go 1 a_Mr_unit_40 rfl
theorem a_Mr_unit_44 : dk_at b_Mr_unit 44 t_Mr_unit_44 := dk_go 3 a_Mr_unit_41 rfl
theorem a_Mr_unit_45 : dk_at b_Mr_unit 45 t_Mr_unit_45 := dk_go 1 a_Mr_unit_44 rfl
theorem d_Mr_unit_0 : decode b_Mr_unit 0 = .ok (.iload_n 1, 1) := dk_0 a_Mr_unit_0 (dko_27 _)
theorem d_Mr_unit_1 : decode b_Mr_unit 1 = .ok (.iconst 1, 1) := dk_0 a_Mr_unit_1 (dko_4 _)
theorem d_Mr_unit_2 : decode b_Mr_unit 2 = .ok (.if_icmp .lt 19, 3) := dk_S2 a_Mr_unit_2 (dko_161 _) (by decide +kernel)
theorem d_Mr_unit_5 : decode b_Mr_unit 5 = .ok (.iload_n 1, 1) := dk_0 a_Mr_unit_5 (dko_27 _)
theorem d_Mr_unit_6 : decode b_Mr_unit 6 = .ok (.bipush 127, 2) := dk_S1 a_Mr_unit_6 (dko_16 _) (by decide +kernel)
theorem d_Mr_unit_8 : decode b_Mr_unit 8 = .ok (.if_icmp .gt 13, 3) := dk_S2 a_Mr_unit_8 (dko_163 _) (by decide +kernel)
theorem d_Mr_unit_11 : decode b_Mr_unit 11 = .ok (.aload_n 0, 1) := dk_0 a_Mr_unit_11 (dko_42 _)
theorem d_Mr_unit_12 : decode b_Mr_unit 12 = .ok (.getfield 59, 3) := dk_U2 a_Mr_unit_12 (dko_180 _) rfl
theorem d_Mr_unit_15 : decode b_Mr_unit 15 = .ok (.sipush 4020, 3) := dk_S2 a_Mr_unit_15 (dko_17 _) (by decide +kernel)
theorem d_Mr_unit_18 : decode b_Mr_unit 18 = .ok (.if_icmp .ne 5, 3) := dk_S2 a_Mr_unit_18 (dko_160 _) (by decide +kernel)
theorem d_Mr_unit_21 : decode b_Mr_unit 21 = .ok (.iconst 0, 1) := dk_0 a_Mr_unit_21 (dko_3 _)
theorem d_Mr_unit_22 : decode b_Mr_unit 22 = .ok (.ireturn, 1) := dk_0 a_Mr_unit_22 (dko_172 _)
theorem d_Mr_unit_23 : decode b_Mr_unit 23 = .ok (.aload_n 0, 1) := dk_0 a_Mr_unit_23 (dko_42 _)
theorem d_Mr_unit_24 : decode b_Mr_unit 24 = .ok (.getfield 11, 3) := dk_U2 a_Mr_unit_24 (dko_180 _) rfl
theorem d_Mr_unit_27 : decode b_Mr_unit 27 = .ok (.aload_n 0, 1) := dk_0 a_Mr_unit_27 (dko_42 _)
theorem d_Mr_unit_28 : decode b_Mr_unit 28 = .ok (.getfield 59, 3) := dk_U2 a_Mr_unit_28 (dko_180 _) rfl
theorem d_Mr_unit_31 : decode b_Mr_unit 31 = .ok (.iload_n 1, 1) := dk_0 a_Mr_unit_31 (dko_27 _)
theorem d_Mr_unit_32 : decode b_Mr_unit 32 = .ok (.i2b, 1) := dk_0 a_Mr_unit_32 (dko_145 _)
theorem d_Mr_unit_33 : decode b_Mr_unit 33 = .ok (.bastore, 1) := dk_0 a_Mr_unit_33 (dko_84 _)
theorem d_Mr_unit_34 : decode b_Mr_unit 34 = .ok (.aload_n 0, 1) := dk_0 a_Mr_unit_34 (dko_42 _)
theorem d_Mr_unit_35 : decode b_Mr_unit 35 = .ok (.dup, 1) := dk_0 a_Mr_unit_35 (dko_89 _)
theorem d_Mr_unit_36 : decode b_Mr_unit 36 = .ok (.getfield 59, 3) := dk_U2 a_Mr_unit_36 (dko_180 _) rfl
theorem d_Mr_unit_39 : decode b_Mr_unit 39 = .ok (.iconst 1, 1) := dk_0 a_Mr_unit_39 (dko_4 _)
theorem d_Mr_unit_40 : decode b_Mr_unit 40 = .ok (.iadd, 1) := dk_0 a_Mr_unit_40 (dko_96 _)
theorem d_Mr_unit_41 : decode b_Mr_unit 41 = .ok (.putfield 59, 3) := dk_U2 a_Mr_unit_41 (dko_181 _) rfl
theorem d_Mr_unit_44 : decode b_Mr_unit 44 = .ok (.iconst 1, 1) := dk_0 a_Mr_unit_44 (dko_4 _)
theorem d_Mr_unit_45 : decode b_Mr_unit 45 = .ok (.ireturn, 1) := dk_0 a_Mr_unit_45 (dko_172 _)
set_option maxHeartbeats 4000000 in
set_option maxRecDepth 100000 in
theorem ok_Mr_unit (pc : Nat) : OpS mt mi_Mr_unit pc (cs_Mr_unit pc) := (os_n (os_n (os_n (os_n (os_l (so_iload_n d_Mr_unit_0 rfl)) (os_n (os_l (so_iconst d_Mr_unit_1 (by decide))) (os_l (so_iclt d_Mr_unit_2 (by decide))))) (os_n (os_l (so_iload_n d_Mr_unit_5 rfl)) (os_n (os_l (so_bipush d_Mr_unit_6 (by decide))) (os_l (so_icgt d_Mr_unit_8 (by decide)))))) (os_n (os_n (os_l (so_aload_n d_Mr_unit_11 rfl)) (os_n (os_l (so_get (C := R_Mr) (T := F_Mr) (N := 25) (j := 1) in_Mr rfl (by decide) mw_1713 d_Mr_unit_12)) (os_l (so_sipush d_Mr_unit_15 (by decide))))) (os_n (os_n (os_l (so_icne d_Mr_unit_18 (by decide))) (os_l (so_iconst d_Mr_unit_21 (by decide)))) (os_n (os_l (so_zreturn rfl d_Mr_unit_22)) (os_l (so_aload_n d_Mr_unit_23 rfl)))))) (os_n (os_n (os_n (os_l (so_get (C := R_Mr) (T := F_Mr) (N := 25) (j := 0) in_Mr rfl (by decide) mw_1712 d_Mr_unit_24)) (os_n (os_l (so_aload_n d_Mr_unit_27 rfl)) (os_l (so_get (C := R_Mr) (T := F_Mr) (N := 25) (j := 1) in_Mr rfl (by decide) mw_1713 d_Mr_unit_28)))) (os_n (os_n (os_l (so_iload_n d_Mr_unit_31 rfl)) (os_l (so_i2b d_Mr_unit_32))) (os_n (os_l (so_bastore d_Mr_unit_33)) (os_l (so_aload_n d_Mr_unit_34 rfl))))) (os_n (os_n (os_l (so_dup d_Mr_unit_35)) (os_n (os_l (so_get (C := R_Mr) (T := F_Mr) (N := 25) (j := 1) in_Mr rfl (by decide) mw_1713 d_Mr_unit_36)) (os_l (so_iconst d_Mr_unit_39 (by decide))))) (os_n (os_n (os_l (so_iadd d_Mr_unit_40)) (os_l (so_putI (C := R_Mr) (T := F_Mr) (N := 25) (j := 1) in_Mr t_Mr_ok n_Mr rfl (by decide) mw_1713 rfl (by decide +kernel) d_Mr_unit_41))) (os_n (os_l (so_iconst d_Mr_unit_44 (by decide))) (os_l (so_zreturn rfl d_Mr_unit_45)))))))
abbrev t_Mr_isSign_23 : List UInt8 := 172 :: []
abbrev t_Mr_isSign_22 : List UInt8 := 3 :: t_Mr_isSign_23
abbrev t_Mr_isSign_19 : List UInt8 := 167 :: 0 :: 4 :: t_Mr_isSign_22
abbrev t_Mr_isSign_18 : List UInt8 := 4 :: t_Mr_isSign_19
abbrev t_Mr_isSign_15 : List UInt8 := 160 :: 0 :: 7 :: t_Mr_isSign_18
abbrev t_Mr_isSign_13 : List UInt8 := 16 :: 59 :: t_Mr_isSign_15
abbrev t_Mr_isSign_12 : List UInt8 := 26 :: t_Mr_isSign_13
abbrev t_Mr_isSign_9 : List UInt8 := 159 :: 0 :: 9 :: t_Mr_isSign_12
abbrev t_Mr_isSign_7 : List UInt8 := 16 :: 41 :: t_Mr_isSign_9
abbrev t_Mr_isSign_6 : List UInt8 := 26 :: t_Mr_isSign_7
abbrev t_Mr_isSign_3 : List UInt8 := 159 :: 0 :: 15 :: t_Mr_isSign_6
abbrev t_Mr_isSign_1 : List UInt8 := 16 :: 40 :: t_Mr_isSign_3
abbrev t_Mr_isSign_0 : List UInt8 := 26 :: t_Mr_isSign_1
theorem a_Mr_isSign_0 : dk_at b_Mr_isSign 0 t_Mr_isSign_0 := dk_start (by decide +kernel)
theorem a_Mr_isSign_1 : dk_at b_Mr_isSign 1 t_Mr_isSign_1 := dk_go 1 a_Mr_isSign_0 rfl
theorem a_Mr_isSign_3 : dk_at b_Mr_isSign 3 t_Mr_isSign_3 := dk_go 2 a_Mr_isSign_1 rfl
theorem a_Mr_isSign_6 : dk_at b_Mr_isSign 6 t_Mr_isSign_6 := dk_go 3 a_Mr_isSign_3 rfl
theorem a_Mr_isSign_7 : dk_at b_Mr_isSign 7 t_Mr_isSign_7 := dk_go 1 a_Mr_isSign_6 rfl
theorem a_Mr_isSign_9 : dk_at b_Mr_isSign 9 t_Mr_isSign_9 := dk_go 2 a_Mr_isSign_7 rfl
theorem a_Mr_isSign_12 : dk_at b_Mr_isSign 12 t_Mr_isSign_12 := dk_go 3 a_Mr_isSign_9 rfl
theorem a_Mr_isSign_13 : dk_at b_Mr_isSign 13 t_Mr_isSign_13 := dk_go 1 a_Mr_isSign_12 rfl
theorem a_Mr_isSign_15 : dk_at b_Mr_isSign 15 t_Mr_isSign_15 := dk_go 2 a_Mr_isSign_13 rfl
theorem a_Mr_isSign_18 : dk_at b_Mr_isSign 18 t_Mr_isSign_18 := dk_go 3 a_Mr_isSign_15 rfl
theorem a_Mr_isSign_19 : dk_at b_Mr_isSign 19 t_Mr_isSign_19 := dk_go 1 a_Mr_isSign_18 rfl
theorem a_Mr_isSign_22 : dk_at b_Mr_isSign 22 t_Mr_isSign_22 := dk_go 3 a_Mr_isSign_19 rfl
theorem a_Mr_isSign_23 : dk_at b_Mr_isSign 23 t_Mr_isSign_23 := dk_go 1 a_Mr_isSign_22 rfl
theorem d_Mr_isSign_0 : decode b_Mr_isSign 0 = .ok (.iload_n 0, 1) := dk_0 a_Mr_isSign_0 (dko_26 _)
theorem d_Mr_isSign_1 : decode b_Mr_isSign 1 = .ok (.bipush 40, 2) := dk_S1 a_Mr_isSign_1 (dko_16 _) (by decide +kernel)
theorem d_Mr_isSign_3 : decode b_Mr_isSign 3 = .ok (.if_icmp .eq 15, 3) := dk_S2 a_Mr_isSign_3 (dko_159 _) (by decide +kernel)
theorem d_Mr_isSign_6 : decode b_Mr_isSign 6 = .ok (.iload_n 0, 1) := dk_0 a_Mr_isSign_6 (dko_26 _)
theorem d_Mr_isSign_7 : decode b_Mr_isSign 7 = .ok (.bipush 41, 2) := dk_S1 a_Mr_isSign_7 (dko_16 _) (by decide +kernel)
theorem d_Mr_isSign_9 : decode b_Mr_isSign 9 = .ok (.if_icmp .eq 9, 3) := dk_S2 a_Mr_isSign_9 (dko_159 _) (by decide +kernel)
theorem d_Mr_isSign_12 : decode b_Mr_isSign 12 = .ok (.iload_n 0, 1) := dk_0 a_Mr_isSign_12 (dko_26 _)
theorem d_Mr_isSign_13 : decode b_Mr_isSign 13 = .ok (.bipush 59, 2) := dk_S1 a_Mr_isSign_13 (dko_16 _) (by decide +kernel)
theorem d_Mr_isSign_15 : decode b_Mr_isSign 15 = .ok (.if_icmp .ne 7, 3) := dk_S2 a_Mr_isSign_15 (dko_160 _) (by decide +kernel)
theorem d_Mr_isSign_18 : decode b_Mr_isSign 18 = .ok (.iconst 1, 1) := dk_0 a_Mr_isSign_18 (dko_4 _)
theorem d_Mr_isSign_19 : decode b_Mr_isSign 19 = .ok (.goto 4, 3) := dk_S2 a_Mr_isSign_19 (dko_167 _) (by decide +kernel)
theorem d_Mr_isSign_22 : decode b_Mr_isSign 22 = .ok (.iconst 0, 1) := dk_0 a_Mr_isSign_22 (dko_3 _)
theorem d_Mr_isSign_23 : decode b_Mr_isSign 23 = .ok (.ireturn, 1) := dk_0 a_Mr_isSign_23 (dko_172 _)
set_option maxHeartbeats 4000000 in
set_option maxRecDepth 100000 in
theorem ok_Mr_isSign (pc : Nat) : OpS mt mi_Mr_isSign pc (cs_Mr_isSign pc) := (os_n (os_n (os_n (os_l (so_iload_n d_Mr_isSign_0 rfl)) (os_n (os_l (so_bipush d_Mr_isSign_1 (by decide))) (os_l (so_iceq d_Mr_isSign_3 (by decide))))) (os_n (os_l (so_iload_n d_Mr_isSign_6 rfl)) (os_n (os_l (so_bipush d_Mr_isSign_7 (by decide))) (os_l (so_iceq d_Mr_isSign_9 (by decide)))))) (os_n (os_n (os_l (so_iload_n d_Mr_isSign_12 rfl)) (os_n (os_l (so_bipush d_Mr_isSign_13 (by decide))) (os_l (so_icne d_Mr_isSign_15 (by decide))))) (os_n (os_n (os_l (so_iconst d_Mr_isSign_18 (by decide))) (os_l (so_goto d_Mr_isSign_19 (by decide)))) (os_n (os_l (so_iconst d_Mr_isSign_22 (by decide))) (os_l (so_zreturn rfl d_Mr_isSign_23))))))
abbrev t_Mr_cut_131 : List UInt8 := 177 :: []
abbrev t_Mr_cut_128 : List UInt8 := 167 :: 255 :: 135 :: t_Mr_cut_131
abbrev t_Mr_cut_125 : List UInt8 := 181 :: 0 :: 63 :: t_Mr_cut_128
abbrev t_Mr_cut_124 : List UInt8 := 96 :: t_Mr_cut_125
abbrev t_Mr_cut_123 : List UInt8 := 4 :: t_Mr_cut_124
abbrev t_Mr_cut_120 : List UInt8 := 180 :: 0 :: 63 :: t_Mr_cut_123
abbrev t_Mr_cut_119 : List UInt8 := 89 :: t_Mr_cut_120
abbrev t_Mr_cut_118 : List UInt8 := 42 :: t_Mr_cut_119
abbrev t_Mr_cut_117 : List UInt8 := 79 :: t_Mr_cut_118
abbrev t_Mr_cut_116 : List UInt8 := 27 :: t_Mr_cut_117
abbrev t_Mr_cut_113 : List UInt8 := 180 :: 0 :: 63 :: t_Mr_cut_116
abbrev t_Mr_cut_112 : List UInt8 := 42 :: t_Mr_cut_113
abbrev t_Mr_cut_109 : List UInt8 := 180 :: 0 :: 19 :: t_Mr_cut_112
abbrev t_Mr_cut_108 : List UInt8 := 42 :: t_Mr_cut_109
abbrev t_Mr_cut_105 : List UInt8 := 167 :: 255 :: 204 :: t_Mr_cut_108
abbrev t_Mr_cut_102 : List UInt8 := 132 :: 1 :: 1 :: t_Mr_cut_105
abbrev t_Mr_cut_99 : List UInt8 := 154 :: 0 :: 9 :: t_Mr_cut_102
abbrev t_Mr_cut_96 : List UInt8 := 184 :: 0 :: 66 :: t_Mr_cut_99
abbrev t_Mr_cut_95 : List UInt8 := 51 :: t_Mr_cut_96
abbrev t_Mr_cut_94 : List UInt8 := 27 :: t_Mr_cut_95
abbrev t_Mr_cut_91 : List UInt8 := 180 :: 0 :: 11 :: t_Mr_cut_94
abbrev t_Mr_cut_90 : List UInt8 := 42 :: t_Mr_cut_91
abbrev t_Mr_cut_87 : List UInt8 := 159 :: 0 :: 21 :: t_Mr_cut_90
abbrev t_Mr_cut_85 : List UInt8 := 16 :: 10 :: t_Mr_cut_87
abbrev t_Mr_cut_84 : List UInt8 := 51 :: t_Mr_cut_85
abbrev t_Mr_cut_83 : List UInt8 := 27 :: t_Mr_cut_84
abbrev t_Mr_cut_80 : List UInt8 := 180 :: 0 :: 11 :: t_Mr_cut_83
abbrev t_Mr_cut_79 : List UInt8 := 42 :: t_Mr_cut_80
abbrev t_Mr_cut_76 : List UInt8 := 159 :: 0 :: 32 :: t_Mr_cut_79
abbrev t_Mr_cut_74 : List UInt8 := 16 :: 32 :: t_Mr_cut_76
abbrev t_Mr_cut_73 : List UInt8 := 51 :: t_Mr_cut_74
abbrev t_Mr_cut_72 : List UInt8 := 27 :: t_Mr_cut_73
abbrev t_Mr_cut_69 : List UInt8 := 180 :: 0 :: 11 :: t_Mr_cut_72
abbrev t_Mr_cut_68 : List UInt8 := 42 :: t_Mr_cut_69
abbrev t_Mr_cut_65 : List UInt8 := 162 :: 0 :: 43 :: t_Mr_cut_68
abbrev t_Mr_cut_62 : List UInt8 := 180 :: 0 :: 59 :: t_Mr_cut_65
abbrev t_Mr_cut_61 : List UInt8 := 42 :: t_Mr_cut_62
abbrev t_Mr_cut_60 : List UInt8 := 27 :: t_Mr_cut_61
abbrev t_Mr_cut_57 : List UInt8 := 154 :: 0 :: 51 :: t_Mr_cut_60
abbrev t_Mr_cut_54 : List UInt8 := 184 :: 0 :: 66 :: t_Mr_cut_57
abbrev t_Mr_cut_53 : List UInt8 := 28 :: t_Mr_cut_54
abbrev t_Mr_cut_50 : List UInt8 := 132 :: 1 :: 1 :: t_Mr_cut_53
abbrev t_Mr_cut_49 : List UInt8 := 79 :: t_Mr_cut_50
abbrev t_Mr_cut_48 : List UInt8 := 27 :: t_Mr_cut_49
abbrev t_Mr_cut_45 : List UInt8 := 180 :: 0 :: 63 :: t_Mr_cut_48
abbrev t_Mr_cut_44 : List UInt8 := 42 :: t_Mr_cut_45
abbrev t_Mr_cut_41 : List UInt8 := 180 :: 0 :: 15 :: t_Mr_cut_44
abbrev t_Mr_cut_40 : List UInt8 := 42 :: t_Mr_cut_41
abbrev t_Mr_cut_37 : List UInt8 := 167 :: 0 :: 91 :: t_Mr_cut_40
abbrev t_Mr_cut_34 : List UInt8 := 132 :: 1 :: 1 :: t_Mr_cut_37
abbrev t_Mr_cut_31 : List UInt8 := 160 :: 0 :: 9 :: t_Mr_cut_34
abbrev t_Mr_cut_29 : List UInt8 := 16 :: 10 :: t_Mr_cut_31
abbrev t_Mr_cut_28 : List UInt8 := 28 :: t_Mr_cut_29
abbrev t_Mr_cut_25 : List UInt8 := 159 :: 0 :: 9 :: t_Mr_cut_28
abbrev t_Mr_cut_23 : List UInt8 := 16 :: 32 :: t_Mr_cut_25
abbrev t_Mr_cut_22 : List UInt8 := 28 :: t_Mr_cut_23
abbrev t_Mr_cut_21 : List UInt8 := 61 :: t_Mr_cut_22
abbrev t_Mr_cut_20 : List UInt8 := 51 :: t_Mr_cut_21
abbrev t_Mr_cut_19 : List UInt8 := 27 :: t_Mr_cut_20
abbrev t_Mr_cut_16 : List UInt8 := 180 :: 0 :: 11 :: t_Mr_cut_19
abbrev t_Mr_cut_15 : List UInt8 := 42 :: t_Mr_cut_16
abbrev t_Mr_cut_12 : List UInt8 := 162 :: 0 :: 119 :: t_Mr_cut_15
abbrev t_Mr_cut_9 : List UInt8 := 180 :: 0 :: 59 :: t_Mr_cut_12
abbrev t_Mr_cut_8 : List UInt8 := 42 :: t_Mr_cut_9
abbrev t_Mr_cut_7 : List UInt8 := 27 :: t_Mr_cut_8
abbrev t_Mr_cut_6 : List UInt8 := 60 :: t_Mr_cut_7
abbrev t_Mr_cut_5 : List UInt8 := 3 :: t_Mr_cut_6
abbrev t_Mr_cut_2 : List UInt8 := 181 :: 0 :: 63 :: t_Mr_cut_5
abbrev t_Mr_cut_1 : List UInt8 := 3 :: t_Mr_cut_2
abbrev t_Mr_cut_0 : List UInt8 := 42 :: t_Mr_cut_1
theorem a_Mr_cut_0 : dk_at b_Mr_cut 0 t_Mr_cut_0 := dk_start (by decide +kernel)
theorem a_Mr_cut_1 : dk_at b_Mr_cut 1 t_Mr_cut_1 := dk_go 1 a_Mr_cut_0 rfl
theorem a_Mr_cut_2 : dk_at b_Mr_cut 2 t_Mr_cut_2 := dk_go 1 a_Mr_cut_1 rfl
theorem a_Mr_cut_5 : dk_at b_Mr_cut 5 t_Mr_cut_5 := dk_go 3 a_Mr_cut_2 rfl
theorem a_Mr_cut_6 : dk_at b_Mr_cut 6 t_Mr_cut_6 := dk_go 1 a_Mr_cut_5 rfl
theorem a_Mr_cut_7 : dk_at b_Mr_cut 7 t_Mr_cut_7 := dk_go 1 a_Mr_cut_6 rfl
theorem a_Mr_cut_8 : dk_at b_Mr_cut 8 t_Mr_cut_8 := dk_go 1 a_Mr_cut_7 rfl
theorem a_Mr_cut_9 : dk_at b_Mr_cut 9 t_Mr_cut_9 := dk_go 1 a_Mr_cut_8 rfl
theorem a_Mr_cut_12 : dk_at b_Mr_cut 12 t_Mr_cut_12 := dk_go 3 a_Mr_cut_9 rfl
theorem a_Mr_cut_15 : dk_at b_Mr_cut 15 t_Mr_cut_15 := dk_go 3 a_Mr_cut_12 rfl
theorem a_Mr_cut_16 : dk_at b_Mr_cut 16 t_Mr_cut_16 := dk_go 1 a_Mr_cut_15 rfl
theorem a_Mr_cut_19 : dk_at b_Mr_cut 19 t_Mr_cut_19 := dk_go 3 a_Mr_cut_16 rfl
theorem a_Mr_cut_20 : dk_at b_Mr_cut 20 t_Mr_cut_20 := dk_go 1 a_Mr_cut_19 rfl
theorem a_Mr_cut_21 : dk_at b_Mr_cut 21 t_Mr_cut_21 := dk_go 1 a_Mr_cut_20 rfl
theorem a_Mr_cut_22 : dk_at b_Mr_cut 22 t_Mr_cut_22 := dk_go 1 a_Mr_cut_21 rfl
theorem a_Mr_cut_23 : dk_at b_Mr_cut 23 t_Mr_cut_23 := dk_go 1 a_Mr_cut_22 rfl
theorem a_Mr_cut_25 : dk_at b_Mr_cut 25 t_Mr_cut_25 := dk_go 2 a_Mr_cut_23 rfl
theorem a_Mr_cut_28 : dk_at b_Mr_cut 28 t_Mr_cut_28 := dk_go 3 a_Mr_cut_25 rfl
theorem a_Mr_cut_29 : dk_at b_Mr_cut 29 t_Mr_cut_29 := dk_go 1 a_Mr_cut_28 rfl
theorem a_Mr_cut_31 : dk_at b_Mr_cut 31 t_Mr_cut_31 := dk_go 2 a_Mr_cut_29 rfl
theorem a_Mr_cut_34 : dk_at b_Mr_cut 34 t_Mr_cut_34 := dk_go 3 a_Mr_cut_31 rfl
theorem a_Mr_cut_37 : dk_at b_Mr_cut 37 t_Mr_cut_37 := dk_go 3 a_Mr_cut_34 rfl
theorem a_Mr_cut_40 : dk_at b_Mr_cut 40 t_Mr_cut_40 := dk_go 3 a_Mr_cut_37 rfl
theorem a_Mr_cut_41 : dk_at b_Mr_cut 41 t_Mr_cut_41 := dk_go 1 a_Mr_cut_40 rfl
theorem a_Mr_cut_44 : dk_at b_Mr_cut 44 t_Mr_cut_44 := dk_go 3 a_Mr_cut_41 rfl
theorem a_Mr_cut_45 : dk_at b_Mr_cut 45 t_Mr_cut_45 := dk_go 1 a_Mr_cut_44 rfl
theorem a_Mr_cut_48 : dk_at b_Mr_cut 48 t_Mr_cut_48 := dk_go 3 a_Mr_cut_45 rfl
theorem a_Mr_cut_49 : dk_at b_Mr_cut 49 t_Mr_cut_49 := dk_go 1 a_Mr_cut_48 rfl
theorem a_Mr_cut_50 : dk_at b_Mr_cut 50 t_Mr_cut_50 := dk_go 1 a_Mr_cut_49 rfl
theorem a_Mr_cut_53 : dk_at b_Mr_cut 53 t_Mr_cut_53 := dk_go 3 a_Mr_cut_50 rfl
theorem a_Mr_cut_54 : dk_at b_Mr_cut 54 t_Mr_cut_54 := dk_go 1 a_Mr_cut_53 rfl
theorem a_Mr_cut_57 : dk_at b_Mr_cut 57 t_Mr_cut_57 := dk_go 3 a_Mr_cut_54 rfl
theorem a_Mr_cut_60 : dk_at b_Mr_cut 60 t_Mr_cut_60 := dk_go 3 a_Mr_cut_57 rfl
theorem a_Mr_cut_61 : dk_at b_Mr_cut 61 t_Mr_cut_61 := dk_go 1 a_Mr_cut_60 rfl
theorem a_Mr_cut_62 : dk_at b_Mr_cut 62 t_Mr_cut_62 := dk_go 1 a_Mr_cut_61 rfl
theorem a_Mr_cut_65 : dk_at b_Mr_cut 65 t_Mr_cut_65 := dk_go 3 a_Mr_cut_62 rfl
theorem a_Mr_cut_68 : dk_at b_Mr_cut 68 t_Mr_cut_68 := dk_go 3 a_Mr_cut_65 rfl
theorem a_Mr_cut_69 : dk_at b_Mr_cut 69 t_Mr_cut_69 := dk_go 1 a_Mr_cut_68 rfl
theorem a_Mr_cut_72 : dk_at b_Mr_cut 72 t_Mr_cut_72 := dk_go 3 a_Mr_cut_69 rfl
theorem a_Mr_cut_73 : dk_at b_Mr_cut 73 t_Mr_cut_73 := dk_go 1 a_Mr_cut_72 rfl
theorem a_Mr_cut_74 : dk_at b_Mr_cut 74 t_Mr_cut_74 := dk_go 1 a_Mr_cut_73 rfl
theorem a_Mr_cut_76 : dk_at b_Mr_cut 76 t_Mr_cut_76 := dk_go 2 a_Mr_cut_74 rfl
theorem a_Mr_cut_79 : dk_at b_Mr_cut 79 t_Mr_cut_79 := dk_go 3 a_Mr_cut_76 rfl
theorem a_Mr_cut_80 : dk_at b_Mr_cut 80 t_Mr_cut_80 := dk_go 1 a_Mr_cut_79 rfl
theorem a_Mr_cut_83 : dk_at b_Mr_cut 83 t_Mr_cut_83 := dk_go 3 a_Mr_cut_80 rfl
theorem a_Mr_cut_84 : dk_at b_Mr_cut 84 t_Mr_cut_84 := dk_go 1 a_Mr_cut_83 rfl
theorem a_Mr_cut_85 : dk_at b_Mr_cut 85 t_Mr_cut_85 := dk_go 1 a_Mr_cut_84 rfl
theorem a_Mr_cut_87 : dk_at b_Mr_cut 87 t_Mr_cut_87 := dk_go 2 a_Mr_cut_85 rfl
theorem a_Mr_cut_90 : dk_at b_Mr_cut 90 t_Mr_cut_90 := dk_go 3 a_Mr_cut_87 rfl
theorem a_Mr_cut_91 : dk_at b_Mr_cut 91 t_Mr_cut_91 := dk_go 1 a_Mr_cut_90 rfl
theorem a_Mr_cut_94 : dk_at b_Mr_cut 94 t_Mr_cut_94 := dk_go 3 a_Mr_cut_91 rfl
theorem a_Mr_cut_95 : dk_at b_Mr_cut 95 t_Mr_cut_95 := dk_go 1 a_Mr_cut_94 rfl
theorem a_Mr_cut_96 : dk_at b_Mr_cut 96 t_Mr_cut_96 := dk_go 1 a_Mr_cut_95 rfl
theorem a_Mr_cut_99 : dk_at b_Mr_cut 99 t_Mr_cut_99 := dk_go 3 a_Mr_cut_96 rfl
theorem a_Mr_cut_102 : dk_at b_Mr_cut 102 t_Mr_cut_102 := dk_go 3 a_Mr_cut_99 rfl
theorem a_Mr_cut_105 : dk_at b_Mr_cut 105 t_Mr_cut_105 := dk_go 3 a_Mr_cut_102 rfl
theorem a_Mr_cut_108 : dk_at b_Mr_cut 108 t_Mr_cut_108 := dk_go 3 a_Mr_cut_105 rfl
theorem a_Mr_cut_109 : dk_at b_Mr_cut 109 t_Mr_cut_109 := dk_go 1 a_Mr_cut_108 rfl
theorem a_Mr_cut_112 : dk_at b_Mr_cut 112 t_Mr_cut_112 := dk_go 3 a_Mr_cut_109 rfl
theorem a_Mr_cut_113 : dk_at b_Mr_cut 113 t_Mr_cut_113 := dk_go 1 a_Mr_cut_112 rfl
theorem a_Mr_cut_116 : dk_at b_Mr_cut 116 t_Mr_cut_116 := dk_go 3 a_Mr_cut_113 rfl
theorem a_Mr_cut_117 : dk_at b_Mr_cut 117 t_Mr_cut_117 := dk_go 1 a_Mr_cut_116 rfl
theorem a_Mr_cut_118 : dk_at b_Mr_cut 118 t_Mr_cut_118 := dk_go 1 a_Mr_cut_117 rfl
theorem a_Mr_cut_119 : dk_at b_Mr_cut 119 t_Mr_cut_119 := dk_go 1 a_Mr_cut_118 rfl
theorem a_Mr_cut_120 : dk_at b_Mr_cut 120 t_Mr_cut_120 := dk_go 1 a_Mr_cut_119 rfl
theorem a_Mr_cut_123 : dk_at b_Mr_cut 123 t_Mr_cut_123 := dk_go 3 a_Mr_cut_120 rfl
theorem a_Mr_cut_124 : dk_at b_Mr_cut 124 t_Mr_cut_124 := dk_go 1 a_Mr_cut_123 rfl
theorem a_Mr_cut_125 : dk_at b_Mr_cut 125 t_Mr_cut_125 := dk_go 1 a_Mr_cut_124 rfl
theorem a_Mr_cut_128 : dk_at b_Mr_cut 128 t_Mr_cut_128 := dk_go 3 a_Mr_cut_125 rfl
theorem a_Mr_cut_131 : dk_at b_Mr_cut 131 t_Mr_cut_131 := dk_go 3 a_Mr_cut_128 rfl
theorem d_Mr_cut_0 : decode b_Mr_cut 0 = .ok (.aload_n 0, 1) := dk_0 a_Mr_cut_0 (dko_42 _)
theorem d_Mr_cut_1 : decode b_Mr_cut 1 = .ok (.iconst 0, 1) := dk_0 a_Mr_cut_1 (dko_3 _)
theorem d_Mr_cut_2 : decode b_Mr_cut 2 = .ok (.putfield 63, 3) := dk_U2 a_Mr_cut_2 (dko_181 _) rfl
theorem d_Mr_cut_5 : decode b_Mr_cut 5 = .ok (.iconst 0, 1) := dk_0 a_Mr_cut_5 (dko_3 _)
theorem d_Mr_cut_6 : decode b_Mr_cut 6 = .ok (.istore_n 1, 1) := dk_0 a_Mr_cut_6 (dko_60 _)
theorem d_Mr_cut_7 : decode b_Mr_cut 7 = .ok (.iload_n 1, 1) := dk_0 a_Mr_cut_7 (dko_27 _)
theorem d_Mr_cut_8 : decode b_Mr_cut 8 = .ok (.aload_n 0, 1) := dk_0 a_Mr_cut_8 (dko_42 _)
theorem d_Mr_cut_9 : decode b_Mr_cut 9 = .ok (.getfield 59, 3) := dk_U2 a_Mr_cut_9 (dko_180 _) rfl
theorem d_Mr_cut_12 : decode b_Mr_cut 12 = .ok (.if_icmp .ge 119, 3) := dk_S2 a_Mr_cut_12 (dko_162 _) (by decide +kernel)
theorem d_Mr_cut_15 : decode b_Mr_cut 15 = .ok (.aload_n 0, 1) := dk_0 a_Mr_cut_15 (dko_42 _)
theorem d_Mr_cut_16 : decode b_Mr_cut 16 = .ok (.getfield 11, 3) := dk_U2 a_Mr_cut_16 (dko_180 _) rfl
theorem d_Mr_cut_19 : decode b_Mr_cut 19 = .ok (.iload_n 1, 1) := dk_0 a_Mr_cut_19 (dko_27 _)
theorem d_Mr_cut_20 : decode b_Mr_cut 20 = .ok (.baload, 1) := dk_0 a_Mr_cut_20 (dko_51 _)
theorem d_Mr_cut_21 : decode b_Mr_cut 21 = .ok (.istore_n 2, 1) := dk_0 a_Mr_cut_21 (dko_61 _)
theorem d_Mr_cut_22 : decode b_Mr_cut 22 = .ok (.iload_n 2, 1) := dk_0 a_Mr_cut_22 (dko_28 _)
theorem d_Mr_cut_23 : decode b_Mr_cut 23 = .ok (.bipush 32, 2) := dk_S1 a_Mr_cut_23 (dko_16 _) (by decide +kernel)
theorem d_Mr_cut_25 : decode b_Mr_cut 25 = .ok (.if_icmp .eq 9, 3) := dk_S2 a_Mr_cut_25 (dko_159 _) (by decide +kernel)
theorem d_Mr_cut_28 : decode b_Mr_cut 28 = .ok (.iload_n 2, 1) := dk_0 a_Mr_cut_28 (dko_28 _)
theorem d_Mr_cut_29 : decode b_Mr_cut 29 = .ok (.bipush 10, 2) := dk_S1 a_Mr_cut_29 (dko_16 _) (by decide +kernel)
theorem d_Mr_cut_31 : decode b_Mr_cut 31 = .ok (.if_icmp .ne 9, 3) := dk_S2 a_Mr_cut_31 (dko_160 _) (by decide +kernel)
theorem d_Mr_cut_34 : decode b_Mr_cut 34 = .ok (.iinc 1 1, 3) := dk_US a_Mr_cut_34 (dko_132 _) (by decide +kernel)
theorem d_Mr_cut_37 : decode b_Mr_cut 37 = .ok (.goto 91, 3) := dk_S2 a_Mr_cut_37 (dko_167 _) (by decide +kernel)
theorem d_Mr_cut_40 : decode b_Mr_cut 40 = .ok (.aload_n 0, 1) := dk_0 a_Mr_cut_40 (dko_42 _)
theorem d_Mr_cut_41 : decode b_Mr_cut 41 = .ok (.getfield 15, 3) := dk_U2 a_Mr_cut_41 (dko_180 _) rfl
theorem d_Mr_cut_44 : decode b_Mr_cut 44 = .ok (.aload_n 0, 1) := dk_0 a_Mr_cut_44 (dko_42 _)
theorem d_Mr_cut_45 : decode b_Mr_cut 45 = .ok (.getfield 63, 3) := dk_U2 a_Mr_cut_45 (dko_180 _) rfl
theorem d_Mr_cut_48 : decode b_Mr_cut 48 = .ok (.iload_n 1, 1) := dk_0 a_Mr_cut_48 (dko_27 _)
theorem d_Mr_cut_49 : decode b_Mr_cut 49 = .ok (.iastore, 1) := dk_0 a_Mr_cut_49 (dko_79 _)
theorem d_Mr_cut_50 : decode b_Mr_cut 50 = .ok (.iinc 1 1, 3) := dk_US a_Mr_cut_50 (dko_132 _) (by decide +kernel)
theorem d_Mr_cut_53 : decode b_Mr_cut 53 = .ok (.iload_n 2, 1) := dk_0 a_Mr_cut_53 (dko_28 _)
theorem d_Mr_cut_54 : decode b_Mr_cut 54 = .ok (.invokestatic 66, 3) := dk_U2 a_Mr_cut_54 (dko_184 _) rfl
theorem d_Mr_cut_57 : decode b_Mr_cut 57 = .ok (.ifCond .ne 51, 3) := dk_S2 a_Mr_cut_57 (dko_154 _) (by decide +kernel)
theorem d_Mr_cut_60 : decode b_Mr_cut 60 = .ok (.iload_n 1, 1) := dk_0 a_Mr_cut_60 (dko_27 _)
theorem d_Mr_cut_61 : decode b_Mr_cut 61 = .ok (.aload_n 0, 1) := dk_0 a_Mr_cut_61 (dko_42 _)
theorem d_Mr_cut_62 : decode b_Mr_cut 62 = .ok (.getfield 59, 3) := dk_U2 a_Mr_cut_62 (dko_180 _) rfl
theorem d_Mr_cut_65 : decode b_Mr_cut 65 = .ok (.if_icmp .ge 43, 3) := dk_S2 a_Mr_cut_65 (dko_162 _) (by decide +kernel)
theorem d_Mr_cut_68 : decode b_Mr_cut 68 = .ok (.aload_n 0, 1) := dk_0 a_Mr_cut_68 (dko_42 _)
theorem d_Mr_cut_69 : decode b_Mr_cut 69 = .ok (.getfield 11, 3) := dk_U2 a_Mr_cut_69 (dko_180 _) rfl
theorem d_Mr_cut_72 : decode b_Mr_cut 72 = .ok (.iload_n 1, 1) := dk_0 a_Mr_cut_72 (dko_27 _)
theorem d_Mr_cut_73 : decode b_Mr_cut 73 = .ok (.baload, 1) := dk_0 a_Mr_cut_73 (dko_51 _)
theorem d_Mr_cut_74 : decode b_Mr_cut 74 = .ok (.bipush 32, 2) := dk_S1 a_Mr_cut_74 (dko_16 _) (by decide +kernel)
theorem d_Mr_cut_76 : decode b_Mr_cut 76 = .ok (.if_icmp .eq 32, 3) := dk_S2 a_Mr_cut_76 (dko_159 _) (by decide +kernel)
theorem d_Mr_cut_79 : decode b_Mr_cut 79 = .ok (.aload_n 0, 1) := dk_0 a_Mr_cut_79 (dko_42 _)
theorem d_Mr_cut_80 : decode b_Mr_cut 80 = .ok (.getfield 11, 3) := dk_U2 a_Mr_cut_80 (dko_180 _) rfl
theorem d_Mr_cut_83 : decode b_Mr_cut 83 = .ok (.iload_n 1, 1) := dk_0 a_Mr_cut_83 (dko_27 _)
theorem d_Mr_cut_84 : decode b_Mr_cut 84 = .ok (.baload, 1) := dk_0 a_Mr_cut_84 (dko_51 _)
theorem d_Mr_cut_85 : decode b_Mr_cut 85 = .ok (.bipush 10, 2) := dk_S1 a_Mr_cut_85 (dko_16 _) (by decide +kernel)
theorem d_Mr_cut_87 : decode b_Mr_cut 87 = .ok (.if_icmp .eq 21, 3) := dk_S2 a_Mr_cut_87 (dko_159 _) (by decide +kernel)
theorem d_Mr_cut_90 : decode b_Mr_cut 90 = .ok (.aload_n 0, 1) := dk_0 a_Mr_cut_90 (dko_42 _)
theorem d_Mr_cut_91 : decode b_Mr_cut 91 = .ok (.getfield 11, 3) := dk_U2 a_Mr_cut_91 (dko_180 _) rfl
theorem d_Mr_cut_94 : decode b_Mr_cut 94 = .ok (.iload_n 1, 1) := dk_0 a_Mr_cut_94 (dko_27 _)
theorem d_Mr_cut_95 : decode b_Mr_cut 95 = .ok (.baload, 1) := dk_0 a_Mr_cut_95 (dko_51 _)
theorem d_Mr_cut_96 : decode b_Mr_cut 96 = .ok (.invokestatic 66, 3) := dk_U2 a_Mr_cut_96 (dko_184 _) rfl
theorem d_Mr_cut_99 : decode b_Mr_cut 99 = .ok (.ifCond .ne 9, 3) := dk_S2 a_Mr_cut_99 (dko_154 _) (by decide +kernel)
theorem d_Mr_cut_102 : decode b_Mr_cut 102 = .ok (.iinc 1 1, 3) := dk_US a_Mr_cut_102 (dko_132 _) (by decide +kernel)
theorem d_Mr_cut_105 : decode b_Mr_cut 105 = .ok (.goto (-52), 3) := dk_S2 a_Mr_cut_105 (dko_167 _) (by decide +kernel)
theorem d_Mr_cut_108 : decode b_Mr_cut 108 = .ok (.aload_n 0, 1) := dk_0 a_Mr_cut_108 (dko_42 _)
theorem d_Mr_cut_109 : decode b_Mr_cut 109 = .ok (.getfield 19, 3) := dk_U2 a_Mr_cut_109 (dko_180 _) rfl
theorem d_Mr_cut_112 : decode b_Mr_cut 112 = .ok (.aload_n 0, 1) := dk_0 a_Mr_cut_112 (dko_42 _)
theorem d_Mr_cut_113 : decode b_Mr_cut 113 = .ok (.getfield 63, 3) := dk_U2 a_Mr_cut_113 (dko_180 _) rfl
theorem d_Mr_cut_116 : decode b_Mr_cut 116 = .ok (.iload_n 1, 1) := dk_0 a_Mr_cut_116 (dko_27 _)
theorem d_Mr_cut_117 : decode b_Mr_cut 117 = .ok (.iastore, 1) := dk_0 a_Mr_cut_117 (dko_79 _)
theorem d_Mr_cut_118 : decode b_Mr_cut 118 = .ok (.aload_n 0, 1) := dk_0 a_Mr_cut_118 (dko_42 _)
theorem d_Mr_cut_119 : decode b_Mr_cut 119 = .ok (.dup, 1) := dk_0 a_Mr_cut_119 (dko_89 _)
theorem d_Mr_cut_120 : decode b_Mr_cut 120 = .ok (.getfield 63, 3) := dk_U2 a_Mr_cut_120 (dko_180 _) rfl
theorem d_Mr_cut_123 : decode b_Mr_cut 123 = .ok (.iconst 1, 1) := dk_0 a_Mr_cut_123 (dko_4 _)
theorem d_Mr_cut_124 : decode b_Mr_cut 124 = .ok (.iadd, 1) := dk_0 a_Mr_cut_124 (dko_96 _)
theorem d_Mr_cut_125 : decode b_Mr_cut 125 = .ok (.putfield 63, 3) := dk_U2 a_Mr_cut_125 (dko_181 _) rfl
theorem d_Mr_cut_128 : decode b_Mr_cut 128 = .ok (.goto (-121), 3) := dk_S2 a_Mr_cut_128 (dko_167 _) (by decide +kernel)
theorem d_Mr_cut_131 : decode b_Mr_cut 131 = .ok (.return_, 1) := dk_0 a_Mr_cut_131 (dko_177 _)
set_option maxHeartbeats 4000000 in
set_option maxRecDepth 100000 in
theorem ok_Mr_cut (pc : Nat) : OpS mt mi_Mr_cut pc (cs_Mr_cut pc) := (os_n (os_n (os_n (os_n (os_n (os_n (os_l (so_aload_n d_Mr_cut_0 rfl)) (os_l (so_iconst d_Mr_cut_1 (by decide)))) (os_n (os_l (so_putI (C := R_Mr) (T := F_Mr) (N := 25) (j := 4) in_Mr t_Mr_ok n_Mr rfl (by decide) mw_1716 rfl (by decide +kernel) d_Mr_cut_2)) (os_l (so_iconst d_Mr_cut_5 (by decide))))) (os_n (os_n (os_l (so_istore_n d_Mr_cut_6 rfl (by decide))) (os_l (so_iload_n d_Mr_cut_7 rfl))) (os_n (os_l (so_aload_n d_Mr_cut_8 rfl)) (os_l (so_get (C := R_Mr) (T := F_Mr) (N := 25) (j := 1) in_Mr rfl (by decide) mw_1713 d_Mr_cut_9))))) (os_n (os_n (os_n (os_l (so_icge d_Mr_cut_12 (by decide))) (os_l (so_aload_n d_Mr_cut_15 rfl))) (os_n (os_l (so_get (C := R_Mr) (T := F_Mr) (N := 25) (j := 0) in_Mr rfl (by decide) mw_1712 d_Mr_cut_16)) (os_l (so_iload_n d_Mr_cut_19 rfl)))) (os_n (os_n (os_l (so_baload d_Mr_cut_20)) (os_l (so_istore_n d_Mr_cut_21 rfl (by decide)))) (os_n (os_l (so_iload_n d_Mr_cut_22 rfl)) (os_n (os_l (so_bipush d_Mr_cut_23 (by decide))) (os_l (so_iceq d_Mr_cut_25 (by decide)))))))) (os_n (os_n (os_n (os_n (os_l (so_iload_n d_Mr_cut_28 rfl)) (os_l (so_bipush d_Mr_cut_29 (by decide)))) (os_n (os_l (so_icne d_Mr_cut_31 (by decide))) (os_l (so_iinc d_Mr_cut_34 (by decide) (by decide))))) (os_n (os_n (os_l (so_goto d_Mr_cut_37 (by decide))) (os_l (so_aload_n d_Mr_cut_40 rfl))) (os_n (os_l (so_get (C := R_Mr) (T := F_Mr) (N := 25) (j := 2) in_Mr rfl (by decide) mw_1714 d_Mr_cut_41)) (os_n (os_l (so_aload_n d_Mr_cut_44 rfl)) (os_l (so_get (C := R_Mr) (T := F_Mr) (N := 25) (j := 4) in_Mr rfl (by decide) mw_1716 d_Mr_cut_45)))))) (os_n (os_n (os_n (os_l (so_iload_n d_Mr_cut_48 rfl)) (os_l (so_iastore d_Mr_cut_49))) (os_n (os_l (so_iinc d_Mr_cut_50 (by decide) (by decide))) (os_l (so_iload_n d_Mr_cut_53 rfl)))) (os_n (os_n (os_l (so_callS (iv := mi_Mr_isSign) rfl mw_2123 mw_2124 mw_20 mw_2125 ⟨by decide +kernel, by decide +kernel, by decide +kernel⟩ (by decide) d_Mr_cut_54)) (os_l (so_ifne d_Mr_cut_57 (by decide)))) (os_n (os_l (so_iload_n d_Mr_cut_60 rfl)) (os_n (os_l (so_aload_n d_Mr_cut_61 rfl)) (os_l (so_get (C := R_Mr) (T := F_Mr) (N := 25) (j := 1) in_Mr rfl (by decide) mw_1713 d_Mr_cut_62)))))))) (os_n (os_n (os_n (os_n (os_n (os_l (so_icge d_Mr_cut_65 (by decide))) (os_l (so_aload_n d_Mr_cut_68 rfl))) (os_n (os_l (so_get (C := R_Mr) (T := F_Mr) (N := 25) (j := 0) in_Mr rfl (by decide) mw_1712 d_Mr_cut_69)) (os_l (so_iload_n d_Mr_cut_72 rfl)))) (os_n (os_n (os_l (so_baload d_Mr_cut_73)) (os_l (so_bipush d_Mr_cut_74 (by decide)))) (os_n (os_l (so_iceq d_Mr_cut_76 (by decide))) (os_l (so_aload_n d_Mr_cut_79 rfl))))) (os_n (os_n (os_n (os_l (so_get (C := R_Mr) (T := F_Mr) (N := 25) (j := 0) in_Mr rfl (by decide) mw_1712 d_Mr_cut_80)) (os_l (so_iload_n d_Mr_cut_83 rfl))) (os_n (os_l (so_baload d_Mr_cut_84)) (os_l (so_bipush d_Mr_cut_85 (by decide))))) (os_n (os_n (os_l (so_iceq d_Mr_cut_87 (by decide))) (os_l (so_aload_n d_Mr_cut_90 rfl))) (os_n (os_l (so_get (C := R_Mr) (T := F_Mr) (N := 25) (j := 0) in_Mr rfl (by decide) mw_1712 d_Mr_cut_91)) (os_n (os_l (so_iload_n d_Mr_cut_94 rfl)) (os_l (so_baload d_Mr_cut_95))))))) (os_n (os_n (os_n (os_n (os_l (so_callS (iv := mi_Mr_isSign) rfl mw_2123 mw_2124 mw_20 mw_2125 ⟨by decide +kernel, by decide +kernel, by decide +kernel⟩ (by decide) d_Mr_cut_96)) (os_l (so_ifne d_Mr_cut_99 (by decide)))) (os_n (os_l (so_iinc d_Mr_cut_102 (by decide) (by decide))) (os_l (so_goto d_Mr_cut_105 (by decide))))) (os_n (os_n (os_l (so_aload_n d_Mr_cut_108 rfl)) (os_l (so_get (C := R_Mr) (T := F_Mr) (N := 25) (j := 3) in_Mr rfl (by decide) mw_1715 d_Mr_cut_109))) (os_n (os_l (so_aload_n d_Mr_cut_112 rfl)) (os_n (os_l (so_get (C := R_Mr) (T := F_Mr) (N := 25) (j := 4) in_Mr rfl (by decide) mw_1716 d_Mr_cut_113)) (os_l (so_iload_n d_Mr_cut_116 rfl)))))) (os_n (os_n (os_n (os_l (so_iastore d_Mr_cut_117)) (os_l (so_aload_n d_Mr_cut_118 rfl))) (os_n (os_l (so_dup d_Mr_cut_119)) (os_l (so_get (C := R_Mr) (T := F_Mr) (N := 25) (j := 4) in_Mr rfl (by decide) mw_1716 d_Mr_cut_120)))) (os_n (os_n (os_l (so_iconst d_Mr_cut_123 (by decide))) (os_l (so_iadd d_Mr_cut_124))) (os_n (os_l (so_putI (C := R_Mr) (T := F_Mr) (N := 25) (j := 4) in_Mr t_Mr_ok n_Mr rfl (by decide) mw_1716 rfl (by decide +kernel) d_Mr_cut_125)) (os_n (os_l (so_goto d_Mr_cut_128 (by decide))) (os_l (so_return rfl d_Mr_cut_131)))))))))
abbrev t_Mr_at_63 : List UInt8 := 172 :: []
abbrev t_Mr_at_62 : List UInt8 := 3 :: t_Mr_at_63
abbrev t_Mr_at_59 : List UInt8 := 167 :: 0 :: 4 :: t_Mr_at_62
abbrev t_Mr_at_58 : List UInt8 := 51 :: t_Mr_at_59
abbrev t_Mr_at_57 : List UInt8 := 28 :: t_Mr_at_58
abbrev t_Mr_at_54 : List UInt8 := 180 :: 0 :: 11 :: t_Mr_at_57
abbrev t_Mr_at_53 : List UInt8 := 42 :: t_Mr_at_54
abbrev t_Mr_at_50 : List UInt8 := 162 :: 0 :: 12 :: t_Mr_at_53
abbrev t_Mr_at_49 : List UInt8 := 46 :: t_Mr_at_50
abbrev t_Mr_at_46 : List UInt8 := 180 :: 0 :: 70 :: t_Mr_at_49
abbrev t_Mr_at_45 : List UInt8 := 42 :: t_Mr_at_46
abbrev t_Mr_at_42 : List UInt8 := 180 :: 0 :: 19 :: t_Mr_at_45
abbrev t_Mr_at_41 : List UInt8 := 42 :: t_Mr_at_42
abbrev t_Mr_at_40 : List UInt8 := 28 :: t_Mr_at_41
abbrev t_Mr_at_37 : List UInt8 := 162 :: 0 :: 25 :: t_Mr_at_40
abbrev t_Mr_at_34 : List UInt8 := 180 :: 0 :: 63 :: t_Mr_at_37
abbrev t_Mr_at_33 : List UInt8 := 42 :: t_Mr_at_34
abbrev t_Mr_at_30 : List UInt8 := 180 :: 0 :: 70 :: t_Mr_at_33
abbrev t_Mr_at_29 : List UInt8 := 42 :: t_Mr_at_30
abbrev t_Mr_at_28 : List UInt8 := 61 :: t_Mr_at_29
abbrev t_Mr_at_25 : List UInt8 := 17 :: 15 :: 180 :: t_Mr_at_28
abbrev t_Mr_at_22 : List UInt8 := 167 :: 0 :: 6 :: t_Mr_at_25
abbrev t_Mr_at_21 : List UInt8 := 96 :: t_Mr_at_22
abbrev t_Mr_at_20 : List UInt8 := 27 :: t_Mr_at_21
abbrev t_Mr_at_19 : List UInt8 := 46 :: t_Mr_at_20
abbrev t_Mr_at_16 : List UInt8 := 180 :: 0 :: 70 :: t_Mr_at_19
abbrev t_Mr_at_15 : List UInt8 := 42 :: t_Mr_at_16
abbrev t_Mr_at_12 : List UInt8 := 180 :: 0 :: 15 :: t_Mr_at_15
abbrev t_Mr_at_11 : List UInt8 := 42 :: t_Mr_at_12
abbrev t_Mr_at_8 : List UInt8 := 162 :: 0 :: 17 :: t_Mr_at_11
abbrev t_Mr_at_5 : List UInt8 := 180 :: 0 :: 63 :: t_Mr_at_8
abbrev t_Mr_at_4 : List UInt8 := 42 :: t_Mr_at_5
abbrev t_Mr_at_1 : List UInt8 := 180 :: 0 :: 70 :: t_Mr_at_4
abbrev t_Mr_at_0 : List UInt8 := 42 :: t_Mr_at_1
theorem a_Mr_at_0 : dk_at b_Mr_at 0 t_Mr_at_0 := dk_start (by decide +kernel)
theorem a_Mr_at_1 : dk_at b_Mr_at 1 t_Mr_at_1 := dk_go 1 a_Mr_at_0 rfl
theorem a_Mr_at_4 : dk_at b_Mr_at 4 t_Mr_at_4 := dk_go 3 a_Mr_at_1 rfl
theorem a_Mr_at_5 : dk_at b_Mr_at 5 t_Mr_at_5 := dk_go 1 a_Mr_at_4 rfl
theorem a_Mr_at_8 : dk_at b_Mr_at 8 t_Mr_at_8 := dk_go 3 a_Mr_at_5 rfl
theorem a_Mr_at_11 : dk_at b_Mr_at 11 t_Mr_at_11 := dk_go 3 a_Mr_at_8 rfl
theorem a_Mr_at_12 : dk_at b_Mr_at 12 t_Mr_at_12 := dk_go 1 a_Mr_at_11 rfl
theorem a_Mr_at_15 : dk_at b_Mr_at 15 t_Mr_at_15 := dk_go 3 a_Mr_at_12 rfl
theorem a_Mr_at_16 : dk_at b_Mr_at 16 t_Mr_at_16 := dk_go 1 a_Mr_at_15 rfl
theorem a_Mr_at_19 : dk_at b_Mr_at 19 t_Mr_at_19 := dk_go 3 a_Mr_at_16 rfl
theorem a_Mr_at_20 : dk_at b_Mr_at 20 t_Mr_at_20 := dk_go 1 a_Mr_at_19 rfl
theorem a_Mr_at_21 : dk_at b_Mr_at 21 t_Mr_at_21 := dk_go 1 a_Mr_at_20 rfl
theorem a_Mr_at_22 : dk_at b_Mr_at 22 t_Mr_at_22 := dk_go 1 a_Mr_at_21 rfl
theorem a_Mr_at_25 : dk_at b_Mr_at 25 t_Mr_at_25 := dk_go 3 a_Mr_at_22 rfl
theorem a_Mr_at_28 : dk_at b_Mr_at 28 t_Mr_at_28 := dk_go 3 a_Mr_at_25 rfl
theorem a_Mr_at_29 : dk_at b_Mr_at 29 t_Mr_at_29 := dk_go 1 a_Mr_at_28 rfl
theorem a_Mr_at_30 : dk_at b_Mr_at 30 t_Mr_at_30 := dk_go 1 a_Mr_at_29 rfl
theorem a_Mr_at_33 : dk_at b_Mr_at 33 t_Mr_at_33 := dk_go 3 a_Mr_at_30 rfl
theorem a_Mr_at_34 : dk_at b_Mr_at 34 t_Mr_at_34 := dk_go 1 a_Mr_at_33 rfl
theorem a_Mr_at_37 : dk_at b_Mr_at 37 t_Mr_at_37 := dk_go 3 a_Mr_at_34 rfl
theorem a_Mr_at_40 : dk_at b_Mr_at 40 t_Mr_at_40 := dk_go 3 a_Mr_at_37 rfl
theorem a_Mr_at_41 : dk_at b_Mr_at 41 t_Mr_at_41 := dk_go 1 a_Mr_at_40 rfl
theorem a_Mr_at_42 : dk_at b_Mr_at 42 t_Mr_at_42 := dk_go 1 a_Mr_at_41 rfl
theorem a_Mr_at_45 : dk_at b_Mr_at 45 t_Mr_at_45 := dk_go 3 a_Mr_at_42 rfl
theorem a_Mr_at_46 : dk_at b_Mr_at 46 t_Mr_at_46 := dk_go 1 a_Mr_at_45 rfl
theorem a_Mr_at_49 : dk_at b_Mr_at 49 t_Mr_at_49 := dk_go 3 a_Mr_at_46 rfl
theorem a_Mr_at_50 : dk_at b_Mr_at 50 t_Mr_at_50 := dk_go 1 a_Mr_at_49 rfl
theorem a_Mr_at_53 : dk_at b_Mr_at 53 t_Mr_at_53 := dk_go 3 a_Mr_at_50 rfl
theorem a_Mr_at_54 : dk_at b_Mr_at 54 t_Mr_at_54 := dk_go 1 a_Mr_at_53 rfl
theorem a_Mr_at_57 : dk_at b_Mr_at 57 t_Mr_at_57 := dk_go 3 a_Mr_at_54 rfl
theorem a_Mr_at_58 : dk_at b_Mr_at 58 t_Mr_at_58 := dk_go 1 a_Mr_at_57 rfl
theorem a_Mr_at_59 : dk_at b_Mr_at 59 t_Mr_at_59 := dk_go 1 a_Mr_at_58 rfl
theorem a_Mr_at_62 : dk_at b_Mr_at 62 t_Mr_at_62 := dk_go 3 a_Mr_at_59 rfl
theorem a_Mr_at_63 : dk_at b_Mr_at 63 t_Mr_at_63 := dk_go 1 a_Mr_at_62 rfl
theorem d_Mr_at_0 : decode b_Mr_at 0 = .ok (.aload_n 0, 1) := dk_0 a_Mr_at_0 (dko_42 _)
theorem d_Mr_at_1 : decode b_Mr_at 1 = .ok (.getfield 70, 3) := dk_U2 a_Mr_at_1 (dko_180 _) rfl
theorem d_Mr_at_4 : decode b_Mr_at 4 = .ok (.aload_n 0, 1) := dk_0 a_Mr_at_4 (dko_42 _)
theorem d_Mr_at_5 : decode b_Mr_at 5 = .ok (.getfield 63, 3) := dk_U2 a_Mr_at_5 (dko_180 _) rfl
theorem d_Mr_at_8 : decode b_Mr_at 8 = .ok (.if_icmp .ge 17, 3) := dk_S2 a_Mr_at_8 (dko_162 _) (by decide +kernel)
theorem d_Mr_at_11 : decode b_Mr_at 11 = .ok (.aload_n 0, 1) := dk_0 a_Mr_at_11 (dko_42 _)
theorem d_Mr_at_12 : decode b_Mr_at 12 = .ok (.getfield 15, 3) := dk_U2 a_Mr_at_12 (dko_180 _) rfl
theorem d_Mr_at_15 : decode b_Mr_at 15 = .ok (.aload_n 0, 1) := dk_0 a_Mr_at_15 (dko_42 _)
theorem d_Mr_at_16 : decode b_Mr_at 16 = .ok (.getfield 70, 3) := dk_U2 a_Mr_at_16 (dko_180 _) rfl
theorem d_Mr_at_19 : decode b_Mr_at 19 = .ok (.iaload, 1) := dk_0 a_Mr_at_19 (dko_46 _)
theorem d_Mr_at_20 : decode b_Mr_at 20 = .ok (.iload_n 1, 1) := dk_0 a_Mr_at_20 (dko_27 _)
theorem d_Mr_at_21 : decode b_Mr_at 21 = .ok (.iadd, 1) := dk_0 a_Mr_at_21 (dko_96 _)
theorem d_Mr_at_22 : decode b_Mr_at 22 = .ok (.goto 6, 3) := dk_S2 a_Mr_at_22 (dko_167 _) (by decide +kernel)
theorem d_Mr_at_25 : decode b_Mr_at 25 = .ok (.sipush 4020, 3) := dk_S2 a_Mr_at_25 (dko_17 _) (by decide +kernel)
theorem d_Mr_at_28 : decode b_Mr_at 28 = .ok (.istore_n 2, 1) := dk_0 a_Mr_at_28 (dko_61 _)
theorem d_Mr_at_29 : decode b_Mr_at 29 = .ok (.aload_n 0, 1) := dk_0 a_Mr_at_29 (dko_42 _)
theorem d_Mr_at_30 : decode b_Mr_at 30 = .ok (.getfield 70, 3) := dk_U2 a_Mr_at_30 (dko_180 _) rfl
theorem d_Mr_at_33 : decode b_Mr_at 33 = .ok (.aload_n 0, 1) := dk_0 a_Mr_at_33 (dko_42 _)
theorem d_Mr_at_34 : decode b_Mr_at 34 = .ok (.getfield 63, 3) := dk_U2 a_Mr_at_34 (dko_180 _) rfl
theorem d_Mr_at_37 : decode b_Mr_at 37 = .ok (.if_icmp .ge 25, 3) := dk_S2 a_Mr_at_37 (dko_162 _) (by decide +kernel)
theorem d_Mr_at_40 : decode b_Mr_at 40 = .ok (.iload_n 2, 1) := dk_0 a_Mr_at_40 (dko_28 _)
theorem d_Mr_at_41 : decode b_Mr_at 41 = .ok (.aload_n 0, 1) := dk_0 a_Mr_at_41 (dko_42 _)
theorem d_Mr_at_42 : decode b_Mr_at 42 = .ok (.getfield 19, 3) := dk_U2 a_Mr_at_42 (dko_180 _) rfl
theorem d_Mr_at_45 : decode b_Mr_at 45 = .ok (.aload_n 0, 1) := dk_0 a_Mr_at_45 (dko_42 _)
theorem d_Mr_at_46 : decode b_Mr_at 46 = .ok (.getfield 70, 3) := dk_U2 a_Mr_at_46 (dko_180 _) rfl
theorem d_Mr_at_49 : decode b_Mr_at 49 = .ok (.iaload, 1) := dk_0 a_Mr_at_49 (dko_46 _)
theorem d_Mr_at_50 : decode b_Mr_at 50 = .ok (.if_icmp .ge 12, 3) := dk_S2 a_Mr_at_50 (dko_162 _) (by decide +kernel)
theorem d_Mr_at_53 : decode b_Mr_at 53 = .ok (.aload_n 0, 1) := dk_0 a_Mr_at_53 (dko_42 _)
theorem d_Mr_at_54 : decode b_Mr_at 54 = .ok (.getfield 11, 3) := dk_U2 a_Mr_at_54 (dko_180 _) rfl
theorem d_Mr_at_57 : decode b_Mr_at 57 = .ok (.iload_n 2, 1) := dk_0 a_Mr_at_57 (dko_28 _)
theorem d_Mr_at_58 : decode b_Mr_at 58 = .ok (.baload, 1) := dk_0 a_Mr_at_58 (dko_51 _)
theorem d_Mr_at_59 : decode b_Mr_at 59 = .ok (.goto 4, 3) := dk_S2 a_Mr_at_59 (dko_167 _) (by decide +kernel)
theorem d_Mr_at_62 : decode b_Mr_at 62 = .ok (.iconst 0, 1) := dk_0 a_Mr_at_62 (dko_3 _)
theorem d_Mr_at_63 : decode b_Mr_at 63 = .ok (.ireturn, 1) := dk_0 a_Mr_at_63 (dko_172 _)
set_option maxHeartbeats 4000000 in
set_option maxRecDepth 100000 in
theorem ok_Mr_at (pc : Nat) : OpS mt mi_Mr_at pc (cs_Mr_at pc) := (os_n (os_n (os_n (os_n (os_n (os_l (so_aload_n d_Mr_at_0 rfl)) (os_l (so_get (C := R_Mr) (T := F_Mr) (N := 25) (j := 5) in_Mr rfl (by decide) mw_1717 d_Mr_at_1))) (os_n (os_l (so_aload_n d_Mr_at_4 rfl)) (os_l (so_get (C := R_Mr) (T := F_Mr) (N := 25) (j := 4) in_Mr rfl (by decide) mw_1716 d_Mr_at_5)))) (os_n (os_n (os_l (so_icge d_Mr_at_8 (by decide))) (os_l (so_aload_n d_Mr_at_11 rfl))) (os_n (os_l (so_get (C := R_Mr) (T := F_Mr) (N := 25) (j := 2) in_Mr rfl (by decide) mw_1714 d_Mr_at_12)) (os_l (so_aload_n d_Mr_at_15 rfl))))) (os_n (os_n (os_n (os_l (so_get (C := R_Mr) (T := F_Mr) (N := 25) (j := 5) in_Mr rfl (by decide) mw_1717 d_Mr_at_16)) (os_l (so_iaload d_Mr_at_19))) (os_n (os_l (so_iload_n d_Mr_at_20 rfl)) (os_l (so_iadd d_Mr_at_21)))) (os_n (os_n (os_l (so_goto d_Mr_at_22 (by decide))) (os_l (so_sipush d_Mr_at_25 (by decide)))) (os_n (os_l (so_istore_n d_Mr_at_28 rfl (by decide))) (os_n (os_l (so_aload_n d_Mr_at_29 rfl)) (os_l (so_get (C := R_Mr) (T := F_Mr) (N := 25) (j := 5) in_Mr rfl (by decide) mw_1717 d_Mr_at_30))))))) (os_n (os_n (os_n (os_n (os_l (so_aload_n d_Mr_at_33 rfl)) (os_l (so_get (C := R_Mr) (T := F_Mr) (N := 25) (j := 4) in_Mr rfl (by decide) mw_1716 d_Mr_at_34))) (os_n (os_l (so_icge d_Mr_at_37 (by decide))) (os_l (so_iload_n d_Mr_at_40 rfl)))) (os_n (os_n (os_l (so_aload_n d_Mr_at_41 rfl)) (os_l (so_get (C := R_Mr) (T := F_Mr) (N := 25) (j := 3) in_Mr rfl (by decide) mw_1715 d_Mr_at_42))) (os_n (os_l (so_aload_n d_Mr_at_45 rfl)) (os_l (so_get (C := R_Mr) (T := F_Mr) (N := 25) (j := 5) in_Mr rfl (by decide) mw_1717 d_Mr_at_46))))) (os_n (os_n (os_n (os_l (so_iaload d_Mr_at_49)) (os_l (so_icge d_Mr_at_50 (by decide)))) (os_n (os_l (so_aload_n d_Mr_at_53 rfl)) (os_l (so_get (C := R_Mr) (T := F_Mr) (N := 25) (j := 0) in_Mr rfl (by decide) mw_1712 d_Mr_at_54)))) (os_n (os_n (os_l (so_iload_n d_Mr_at_57 rfl)) (os_l (so_baload d_Mr_at_58))) (os_n (os_l (so_goto d_Mr_at_59 (by decide))) (os_n (os_l (so_iconst d_Mr_at_62 (by decide))) (os_l (so_ireturn rfl d_Mr_at_63))))))))
abbrev t_Mr_wide_34 : List UInt8 := 172 :: []
abbrev t_Mr_wide_33 : List UInt8 := 3 :: t_Mr_wide_34
abbrev t_Mr_wide_30 : List UInt8 := 167 :: 0 :: 4 :: t_Mr_wide_33
abbrev t_Mr_wide_29 : List UInt8 := 100 :: t_Mr_wide_30
abbrev t_Mr_wide_28 : List UInt8 := 46 :: t_Mr_wide_29
abbrev t_Mr_wide_25 : List UInt8 := 180 :: 0 :: 70 :: t_Mr_wide_28
abbrev t_Mr_wide_24 : List UInt8 := 42 :: t_Mr_wide_25
abbrev t_Mr_wide_21 : List UInt8 := 180 :: 0 :: 15 :: t_Mr_wide_24
abbrev t_Mr_wide_20 : List UInt8 := 42 :: t_Mr_wide_21
abbrev t_Mr_wide_19 : List UInt8 := 46 :: t_Mr_wide_20
abbrev t_Mr_wide_16 : List UInt8 := 180 :: 0 :: 70 :: t_Mr_wide_19
abbrev t_Mr_wide_15 : List UInt8 := 42 :: t_Mr_wide_16
abbrev t_Mr_wide_12 : List UInt8 := 180 :: 0 :: 19 :: t_Mr_wide_15
abbrev t_Mr_wide_11 : List UInt8 := 42 :: t_Mr_wide_12
abbrev t_Mr_wide_8 : List UInt8 := 162 :: 0 :: 25 :: t_Mr_wide_11
abbrev t_Mr_wide_5 : List UInt8 := 180 :: 0 :: 63 :: t_Mr_wide_8
abbrev t_Mr_wide_4 : List UInt8 := 42 :: t_Mr_wide_5
abbrev t_Mr_wide_1 : List UInt8 := 180 :: 0 :: 70 :: t_Mr_wide_4
abbrev t_Mr_wide_0 : List UInt8 := 42 :: t_Mr_wide_1
theorem a_Mr_wide_0 : dk_at b_Mr_wide 0 t_Mr_wide_0 := dk_start (by decide +kernel)
theorem a_Mr_wide_1 : dk_at b_Mr_wide 1 t_Mr_wide_1 := dk_go 1 a_Mr_wide_0 rfl
theorem a_Mr_wide_4 : dk_at b_Mr_wide 4 t_Mr_wide_4 := dk_go 3 a_Mr_wide_1 rfl
theorem a_Mr_wide_5 : dk_at b_Mr_wide 5 t_Mr_wide_5 := dk_go 1 a_Mr_wide_4 rfl
theorem a_Mr_wide_8 : dk_at b_Mr_wide 8 t_Mr_wide_8 := dk_go 3 a_Mr_wide_5 rfl
theorem a_Mr_wide_11 : dk_at b_Mr_wide 11 t_Mr_wide_11 := dk_go 3 a_Mr_wide_8 rfl
theorem a_Mr_wide_12 : dk_at b_Mr_wide 12 t_Mr_wide_12 := dk_go 1 a_Mr_wide_11 rfl
theorem a_Mr_wide_15 : dk_at b_Mr_wide 15 t_Mr_wide_15 := dk_go 3 a_Mr_wide_12 rfl
theorem a_Mr_wide_16 : dk_at b_Mr_wide 16 t_Mr_wide_16 := dk_go 1 a_Mr_wide_15 rfl
theorem a_Mr_wide_19 : dk_at b_Mr_wide 19 t_Mr_wide_19 := dk_go 3 a_Mr_wide_16 rfl
theorem a_Mr_wide_20 : dk_at b_Mr_wide 20 t_Mr_wide_20 := dk_go 1 a_Mr_wide_19 rfl
theorem a_Mr_wide_21 : dk_at b_Mr_wide 21 t_Mr_wide_21 := dk_go 1 a_Mr_wide_20 rfl
theorem a_Mr_wide_24 : dk_at b_Mr_wide 24 t_Mr_wide_24 := dk_go 3 a_Mr_wide_21 rfl
theorem a_Mr_wide_25 : dk_at b_Mr_wide 25 t_Mr_wide_25 := dk_go 1 a_Mr_wide_24 rfl
theorem a_Mr_wide_28 : dk_at b_Mr_wide 28 t_Mr_wide_28 := dk_go 3 a_Mr_wide_25 rfl
theorem a_Mr_wide_29 : dk_at b_Mr_wide 29 t_Mr_wide_29 := dk_go 1 a_Mr_wide_28 rfl
theorem a_Mr_wide_30 : dk_at b_Mr_wide 30 t_Mr_wide_30 := dk_go 1 a_Mr_wide_29 rfl
theorem a_Mr_wide_33 : dk_at b_Mr_wide 33 t_Mr_wide_33 := dk_go 3 a_Mr_wide_30 rfl
theorem a_Mr_wide_34 : dk_at b_Mr_wide 34 t_Mr_wide_34 := dk_go 1 a_Mr_wide_33 rfl
theorem d_Mr_wide_0 : decode b_Mr_wide 0 = .ok (.aload_n 0, 1) := dk_0 a_Mr_wide_0 (dko_42 _)
theorem d_Mr_wide_1 : decode b_Mr_wide 1 = .ok (.getfield 70, 3) := dk_U2 a_Mr_wide_1 (dko_180 _) rfl
theorem d_Mr_wide_4 : decode b_Mr_wide 4 = .ok (.aload_n 0, 1) := dk_0 a_Mr_wide_4 (dko_42 _)
theorem d_Mr_wide_5 : decode b_Mr_wide 5 = .ok (.getfield 63, 3) := dk_U2 a_Mr_wide_5 (dko_180 _) rfl
theorem d_Mr_wide_8 : decode b_Mr_wide 8 = .ok (.if_icmp .ge 25, 3) := dk_S2 a_Mr_wide_8 (dko_162 _) (by decide +kernel)
theorem d_Mr_wide_11 : decode b_Mr_wide 11 = .ok (.aload_n 0, 1) := dk_0 a_Mr_wide_11 (dko_42 _)
theorem d_Mr_wide_12 : decode b_Mr_wide 12 = .ok (.getfield 19, 3) := dk_U2 a_Mr_wide_12 (dko_180 _) rfl
theorem d_Mr_wide_15 : decode b_Mr_wide 15 = .ok (.aload_n 0, 1) := dk_0 a_Mr_wide_15 (dko_42 _)
theorem d_Mr_wide_16 : decode b_Mr_wide 16 = .ok (.getfield 70, 3) := dk_U2 a_Mr_wide_16 (dko_180 _) rfl
theorem d_Mr_wide_19 : decode b_Mr_wide 19 = .ok (.iaload, 1) := dk_0 a_Mr_wide_19 (dko_46 _)
theorem d_Mr_wide_20 : decode b_Mr_wide 20 = .ok (.aload_n 0, 1) := dk_0 a_Mr_wide_20 (dko_42 _)
theorem d_Mr_wide_21 : decode b_Mr_wide 21 = .ok (.getfield 15, 3) := dk_U2 a_Mr_wide_21 (dko_180 _) rfl
theorem d_Mr_wide_24 : decode b_Mr_wide 24 = .ok (.aload_n 0, 1) := dk_0 a_Mr_wide_24 (dko_42 _)
theorem d_Mr_wide_25 : decode b_Mr_wide 25 = .ok (.getfield 70, 3) := dk_U2 a_Mr_wide_25 (dko_180 _) rfl
theorem d_Mr_wide_28 : decode b_Mr_wide 28 = .ok (.iaload, 1) := dk_0 a_Mr_wide_28 (dko_46 _)
theorem d_Mr_wide_29 : decode b_Mr_wide 29 = .ok (.isub, 1) := dk_0 a_Mr_wide_29 (dko_100 _)
theorem d_Mr_wide_30 : decode b_Mr_wide 30 = .ok (.goto 4, 3) := dk_S2 a_Mr_wide_30 (dko_167 _) (by decide +kernel)
theorem d_Mr_wide_33 : decode b_Mr_wide 33 = .ok (.iconst 0, 1) := dk_0 a_Mr_wide_33 (dko_3 _)
theorem d_Mr_wide_34 : decode b_Mr_wide 34 = .ok (.ireturn, 1) := dk_0 a_Mr_wide_34 (dko_172 _)
set_option maxHeartbeats 4000000 in
set_option maxRecDepth 100000 in
theorem ok_Mr_wide (pc : Nat) : OpS mt mi_Mr_wide pc (cs_Mr_wide pc) := (os_n (os_n (os_n (os_n (os_l (so_aload_n d_Mr_wide_0 rfl)) (os_l (so_get (C := R_Mr) (T := F_Mr) (N := 25) (j := 5) in_Mr rfl (by decide) mw_1717 d_Mr_wide_1))) (os_n (os_l (so_aload_n d_Mr_wide_4 rfl)) (os_l (so_get (C := R_Mr) (T := F_Mr) (N := 25) (j := 4) in_Mr rfl (by decide) mw_1716 d_Mr_wide_5)))) (os_n (os_n (os_l (so_icge d_Mr_wide_8 (by decide))) (os_l (so_aload_n d_Mr_wide_11 rfl))) (os_n (os_l (so_get (C := R_Mr) (T := F_Mr) (N := 25) (j := 3) in_Mr rfl (by decide) mw_1715 d_Mr_wide_12)) (os_n (os_l (so_aload_n d_Mr_wide_15 rfl)) (os_l (so_get (C := R_Mr) (T := F_Mr) (N := 25) (j := 5) in_Mr rfl (by decide) mw_1717 d_Mr_wide_16)))))) (os_n (os_n (os_n (os_l (so_iaload d_Mr_wide_19)) (os_l (so_aload_n d_Mr_wide_20 rfl))) (os_n (os_l (so_get (C := R_Mr) (T := F_Mr) (N := 25) (j := 2) in_Mr rfl (by decide) mw_1714 d_Mr_wide_21)) (os_n (os_l (so_aload_n d_Mr_wide_24 rfl)) (os_l (so_get (C := R_Mr) (T := F_Mr) (N := 25) (j := 5) in_Mr rfl (by decide) mw_1717 d_Mr_wide_25))))) (os_n (os_n (os_l (so_iaload d_Mr_wide_28)) (os_l (so_isub d_Mr_wide_29))) (os_n (os_l (so_goto d_Mr_wide_30 (by decide))) (os_n (os_l (so_iconst d_Mr_wide_33 (by decide))) (os_l (so_ireturn rfl d_Mr_wide_34)))))))
abbrev t_Mr_is_114 : List UInt8 := 172 :: []
abbrev t_Mr_is_113 : List UInt8 := 3 :: t_Mr_is_114
abbrev t_Mr_is_110 : List UInt8 := 167 :: 0 :: 4 :: t_Mr_is_113
abbrev t_Mr_is_109 : List UInt8 := 4 :: t_Mr_is_110
abbrev t_Mr_is_106 : List UInt8 := 160 :: 0 :: 7 :: t_Mr_is_109
abbrev t_Mr_is_104 : List UInt8 := 21 :: 7 :: t_Mr_is_106
abbrev t_Mr_is_101 : List UInt8 := 182 :: 0 :: 77 :: t_Mr_is_104
abbrev t_Mr_is_99 : List UInt8 := 16 :: 6 :: t_Mr_is_101
abbrev t_Mr_is_98 : List UInt8 := 42 :: t_Mr_is_99
abbrev t_Mr_is_95 : List UInt8 := 161 :: 0 :: 14 :: t_Mr_is_98
abbrev t_Mr_is_93 : List UInt8 := 16 :: 7 :: t_Mr_is_95
abbrev t_Mr_is_91 : List UInt8 := 21 :: 8 :: t_Mr_is_93
abbrev t_Mr_is_88 : List UInt8 := 160 :: 0 :: 25 :: t_Mr_is_91
abbrev t_Mr_is_86 : List UInt8 := 21 :: 6 :: t_Mr_is_88
abbrev t_Mr_is_83 : List UInt8 := 182 :: 0 :: 77 :: t_Mr_is_86
abbrev t_Mr_is_82 : List UInt8 := 8 :: t_Mr_is_83
abbrev t_Mr_is_81 : List UInt8 := 42 :: t_Mr_is_82
abbrev t_Mr_is_78 : List UInt8 := 161 :: 0 :: 13 :: t_Mr_is_81
abbrev t_Mr_is_76 : List UInt8 := 16 :: 6 :: t_Mr_is_78
abbrev t_Mr_is_74 : List UInt8 := 21 :: 8 :: t_Mr_is_76
abbrev t_Mr_is_71 : List UInt8 := 160 :: 0 :: 42 :: t_Mr_is_74
abbrev t_Mr_is_69 : List UInt8 := 21 :: 5 :: t_Mr_is_71
abbrev t_Mr_is_66 : List UInt8 := 182 :: 0 :: 77 :: t_Mr_is_69
abbrev t_Mr_is_65 : List UInt8 := 7 :: t_Mr_is_66
abbrev t_Mr_is_64 : List UInt8 := 42 :: t_Mr_is_65
abbrev t_Mr_is_61 : List UInt8 := 161 :: 0 :: 13 :: t_Mr_is_64
abbrev t_Mr_is_60 : List UInt8 := 8 :: t_Mr_is_61
abbrev t_Mr_is_58 : List UInt8 := 21 :: 8 :: t_Mr_is_60
abbrev t_Mr_is_55 : List UInt8 := 160 :: 0 :: 58 :: t_Mr_is_58
abbrev t_Mr_is_53 : List UInt8 := 21 :: 4 :: t_Mr_is_55
abbrev t_Mr_is_50 : List UInt8 := 182 :: 0 :: 77 :: t_Mr_is_53
abbrev t_Mr_is_49 : List UInt8 := 6 :: t_Mr_is_50
abbrev t_Mr_is_48 : List UInt8 := 42 :: t_Mr_is_49
abbrev t_Mr_is_45 : List UInt8 := 161 :: 0 :: 13 :: t_Mr_is_48
abbrev t_Mr_is_44 : List UInt8 := 7 :: t_Mr_is_45
abbrev t_Mr_is_42 : List UInt8 := 21 :: 8 :: t_Mr_is_44
abbrev t_Mr_is_39 : List UInt8 := 160 :: 0 :: 74 :: t_Mr_is_42
abbrev t_Mr_is_38 : List UInt8 := 29 :: t_Mr_is_39
abbrev t_Mr_is_35 : List UInt8 := 182 :: 0 :: 77 :: t_Mr_is_38
abbrev t_Mr_is_34 : List UInt8 := 5 :: t_Mr_is_35
abbrev t_Mr_is_33 : List UInt8 := 42 :: t_Mr_is_34
abbrev t_Mr_is_30 : List UInt8 := 161 :: 0 :: 12 :: t_Mr_is_33
abbrev t_Mr_is_29 : List UInt8 := 6 :: t_Mr_is_30
abbrev t_Mr_is_27 : List UInt8 := 21 :: 8 :: t_Mr_is_29
abbrev t_Mr_is_24 : List UInt8 := 160 :: 0 :: 89 :: t_Mr_is_27
abbrev t_Mr_is_23 : List UInt8 := 28 :: t_Mr_is_24
abbrev t_Mr_is_20 : List UInt8 := 182 :: 0 :: 77 :: t_Mr_is_23
abbrev t_Mr_is_19 : List UInt8 := 4 :: t_Mr_is_20
abbrev t_Mr_is_18 : List UInt8 := 42 :: t_Mr_is_19
abbrev t_Mr_is_15 : List UInt8 := 160 :: 0 :: 98 :: t_Mr_is_18
abbrev t_Mr_is_14 : List UInt8 := 27 :: t_Mr_is_15
abbrev t_Mr_is_11 : List UInt8 := 182 :: 0 :: 77 :: t_Mr_is_14
abbrev t_Mr_is_10 : List UInt8 := 3 :: t_Mr_is_11
abbrev t_Mr_is_9 : List UInt8 := 42 :: t_Mr_is_10
abbrev t_Mr_is_6 : List UInt8 := 160 :: 0 :: 107 :: t_Mr_is_9
abbrev t_Mr_is_4 : List UInt8 := 21 :: 8 :: t_Mr_is_6
abbrev t_Mr_is_1 : List UInt8 := 182 :: 0 :: 73 :: t_Mr_is_4
abbrev t_Mr_is_0 : List UInt8 := 42 :: t_Mr_is_1
theorem a_Mr_is_0 : dk_at b_Mr_is 0 t_Mr_is_0 := dk_start (by decide +kernel)
theorem a_Mr_is_1 : dk_at b_Mr_is 1 t_Mr_is_1 := dk_go 1 a_Mr_is_0 rfl
theorem a_Mr_is_4 : dk_at b_Mr_is 4 t_Mr_is_4 := dk_go 3 a_Mr_is_1 rfl
theorem a_Mr_is_6 : dk_at b_Mr_is 6 t_Mr_is_6 := dk_go 2 a_Mr_is_4 rfl
theorem a_Mr_is_9 : dk_at b_Mr_is 9 t_Mr_is_9 := dk_go 3 a_Mr_is_6 rfl
theorem a_Mr_is_10 : dk_at b_Mr_is 10 t_Mr_is_10 := dk_go 1 a_Mr_is_9 rfl
theorem a_Mr_is_11 : dk_at b_Mr_is 11 t_Mr_is_11 := dk_go 1 a_Mr_is_10 rfl
theorem a_Mr_is_14 : dk_at b_Mr_is 14 t_Mr_is_14 := dk_go 3 a_Mr_is_11 rfl
theorem a_Mr_is_15 : dk_at b_Mr_is 15 t_Mr_is_15 := dk_go 1 a_Mr_is_14 rfl
theorem a_Mr_is_18 : dk_at b_Mr_is 18 t_Mr_is_18 := dk_go 3 a_Mr_is_15 rfl
theorem a_Mr_is_19 : dk_at b_Mr_is 19 t_Mr_is_19 := dk_go 1 a_Mr_is_18 rfl
theorem a_Mr_is_20 : dk_at b_Mr_is 20 t_Mr_is_20 := dk_go 1 a_Mr_is_19 rfl
theorem a_Mr_is_23 : dk_at b_Mr_is 23 t_Mr_is_23 := dk_go 3 a_Mr_is_20 rfl
theorem a_Mr_is_24 : dk_at b_Mr_is 24 t_Mr_is_24 := dk_go 1 a_Mr_is_23 rfl
theorem a_Mr_is_27 : dk_at b_Mr_is 27 t_Mr_is_27 := dk_go 3 a_Mr_is_24 rfl
theorem a_Mr_is_29 : dk_at b_Mr_is 29 t_Mr_is_29 := dk_go 2 a_Mr_is_27 rfl
theorem a_Mr_is_30 : dk_at b_Mr_is 30 t_Mr_is_30 := dk_go 1 a_Mr_is_29 rfl
theorem a_Mr_is_33 : dk_at b_Mr_is 33 t_Mr_is_33 := dk_go 3 a_Mr_is_30 rfl
theorem a_Mr_is_34 : dk_at b_Mr_is 34 t_Mr_is_34 := dk_go 1 a_Mr_is_33 rfl
theorem a_Mr_is_35 : dk_at b_Mr_is 35 t_Mr_is_35 := dk_go 1 a_Mr_is_34 rfl
theorem a_Mr_is_38 : dk_at b_Mr_is 38 t_Mr_is_38 := dk_go 3 a_Mr_is_35 rfl
theorem a_Mr_is_39 : dk_at b_Mr_is 39 t_Mr_is_39 := dk_go 1 a_Mr_is_38 rfl
theorem a_Mr_is_42 : dk_at b_Mr_is 42 t_Mr_is_42 := dk_go 3 a_Mr_is_39 rfl
theorem a_Mr_is_44 : dk_at b_Mr_is 44 t_Mr_is_44 := dk_go 2 a_Mr_is_42 rfl
theorem a_Mr_is_45 : dk_at b_Mr_is 45 t_Mr_is_45 := dk_go 1 a_Mr_is_44 rfl
theorem a_Mr_is_48 : dk_at b_Mr_is 48 t_Mr_is_48 := dk_go 3 a_Mr_is_45 rfl
theorem a_Mr_is_49 : dk_at b_Mr_is 49 t_Mr_is_49 := dk_go 1 a_Mr_is_48 rfl
theorem a_Mr_is_50 : dk_at b_Mr_is 50 t_Mr_is_50 := dk_go 1 a_Mr_is_49 rfl
theorem a_Mr_is_53 : dk_at b_Mr_is 53 t_Mr_is_53 := dk_go 3 a_Mr_is_50 rfl
theorem a_Mr_is_55 : dk_at b_Mr_is 55 t_Mr_is_55 := dk_go 2 a_Mr_is_53 rfl
theorem a_Mr_is_58 : dk_at b_Mr_is 58 t_Mr_is_58 := dk_go 3 a_Mr_is_55 rfl
theorem a_Mr_is_60 : dk_at b_Mr_is 60 t_Mr_is_60 := dk_go 2 a_Mr_is_58 rfl
theorem a_Mr_is_61 : dk_at b_Mr_is 61 t_Mr_is_61 := dk_go 1 a_Mr_is_60 rfl
theorem a_Mr_is_64 : dk_at b_Mr_is 64 t_Mr_is_64 := dk_go 3 a_Mr_is_61 rfl
theorem a_Mr_is_65 : dk_at b_Mr_is 65 t_Mr_is_65 := dk_go 1 a_Mr_is_64 rfl
theorem a_Mr_is_66 : dk_at b_Mr_is 66 t_Mr_is_66 := dk_go 1 a_Mr_is_65 rfl
theorem a_Mr_is_69 : dk_at b_Mr_is 69 t_Mr_is_69 := dk_go 3 a_Mr_is_66 rfl
theorem a_Mr_is_71 : dk_at b_Mr_is 71 t_Mr_is_71 := dk_go 2 a_Mr_is_69 rfl
theorem a_Mr_is_74 : dk_at b_Mr_is 74 t_Mr_is_74 := dk_go 3 a_Mr_is_71 rfl
theorem a_Mr_is_76 : dk_at b_Mr_is 76 t_Mr_is_76 := dk_go 2 a_Mr_is_74 rfl
theorem a_Mr_is_78 : dk_at b_Mr_is 78 t_Mr_is_78 := dk_go 2 a_Mr_is_76 rfl
theorem a_Mr_is_81 : dk_at b_Mr_is 81 t_Mr_is_81 := dk_go 3 a_Mr_is_78 rfl
theorem a_Mr_is_82 : dk_at b_Mr_is 82 t_Mr_is_82 := dk_go 1 a_Mr_is_81 rfl
theorem a_Mr_is_83 : dk_at b_Mr_is 83 t_Mr_is_83 := dk_go 1 a_Mr_is_82 rfl
theorem a_Mr_is_86 : dk_at b_Mr_is 86 t_Mr_is_86 := dk_go 3 a_Mr_is_83 rfl
theorem a_Mr_is_88 : dk_at b_Mr_is 88 t_Mr_is_88 := dk_go 2 a_Mr_is_86 rfl
theorem a_Mr_is_91 : dk_at b_Mr_is 91 t_Mr_is_91 := dk_go 3 a_Mr_is_88 rfl
theorem a_Mr_is_93 : dk_at b_Mr_is 93 t_Mr_is_93 := dk_go 2 a_Mr_is_91 rfl
theorem a_Mr_is_95 : dk_at b_Mr_is 95 t_Mr_is_95 := dk_go 2 a_Mr_is_93 rfl
theorem a_Mr_is_98 : dk_at b_Mr_is 98 t_Mr_is_98 := dk_go 3 a_Mr_is_95 rfl
theorem a_Mr_is_99 : dk_at b_Mr_is 99 t_Mr_is_99 := dk_go 1 a_Mr_is_98 rfl
theorem a_Mr_is_101 : dk_at b_Mr_is 101 t_Mr_is_101 := dk_go 2 a_Mr_is_99 rfl
theorem a_Mr_is_104 : dk_at b_Mr_is 104 t_Mr_is_104 := dk_go 3 a_Mr_is_101 rfl
theorem a_Mr_is_106 : dk_at b_Mr_is 106 t_Mr_is_106 := dk_go 2 a_Mr_is_104 rfl
theorem a_Mr_is_109 : dk_at b_Mr_is 109 t_Mr_is_109 := dk_go 3 a_Mr_is_106 rfl
theorem a_Mr_is_110 : dk_at b_Mr_is 110 t_Mr_is_110 := dk_go 1 a_Mr_is_109 rfl
theorem a_Mr_is_113 : dk_at b_Mr_is 113 t_Mr_is_113 := dk_go 3 a_Mr_is_110 rfl
theorem a_Mr_is_114 : dk_at b_Mr_is 114 t_Mr_is_114 := dk_go 1 a_Mr_is_113 rfl
theorem d_Mr_is_0 : decode b_Mr_is 0 = .ok (.aload_n 0, 1) := dk_0 a_Mr_is_0 (dko_42 _)
theorem d_Mr_is_1 : decode b_Mr_is 1 = .ok (.invokevirtual 73, 3) := dk_U2 a_Mr_is_1 (dko_182 _) rfl
theorem d_Mr_is_4 : decode b_Mr_is 4 = .ok (.iload 8, 2) := dk_U1 a_Mr_is_4 (dko_21 _) rfl
theorem d_Mr_is_6 : decode b_Mr_is 6 = .ok (.if_icmp .ne 107, 3) := dk_S2 a_Mr_is_6 (dko_160 _) (by decide +kernel)
theorem d_Mr_is_9 : decode b_Mr_is 9 = .ok (.aload_n 0, 1) := dk_0 a_Mr_is_9 (dko_42 _)
theorem d_Mr_is_10 : decode b_Mr_is 10 = .ok (.iconst 0, 1) := dk_0 a_Mr_is_10 (dko_3 _)
theorem d_Mr_is_11 : decode b_Mr_is 11 = .ok (.invokevirtual 77, 3) := dk_U2 a_Mr_is_11 (dko_182 _) rfl
theorem d_Mr_is_14 : decode b_Mr_is 14 = .ok (.iload_n 1, 1) := dk_0 a_Mr_is_14 (dko_27 _)
theorem d_Mr_is_15 : decode b_Mr_is 15 = .ok (.if_icmp .ne 98, 3) := dk_S2 a_Mr_is_15 (dko_160 _) (by decide +kernel)
theorem d_Mr_is_18 : decode b_Mr_is 18 = .ok (.aload_n 0, 1) := dk_0 a_Mr_is_18 (dko_42 _)
theorem d_Mr_is_19 : decode b_Mr_is 19 = .ok (.iconst 1, 1) := dk_0 a_Mr_is_19 (dko_4 _)
theorem d_Mr_is_20 : decode b_Mr_is 20 = .ok (.invokevirtual 77, 3) := dk_U2 a_Mr_is_20 (dko_182 _) rfl
theorem d_Mr_is_23 : decode b_Mr_is 23 = .ok (.iload_n 2, 1) := dk_0 a_Mr_is_23 (dko_28 _)
theorem d_Mr_is_24 : decode b_Mr_is 24 = .ok (.if_icmp .ne 89, 3) := dk_S2 a_Mr_is_24 (dko_160 _) (by decide +kernel)
theorem d_Mr_is_27 : decode b_Mr_is 27 = .ok (.iload 8, 2) := dk_U1 a_Mr_is_27 (dko_21 _) rfl
theorem d_Mr_is_29 : decode b_Mr_is 29 = .ok (.iconst 3, 1) := dk_0 a_Mr_is_29 (dko_6 _)
theorem d_Mr_is_30 : decode b_Mr_is 30 = .ok (.if_icmp .lt 12, 3) := dk_S2 a_Mr_is_30 (dko_161 _) (by decide +kernel)
theorem d_Mr_is_33 : decode b_Mr_is 33 = .ok (.aload_n 0, 1) := dk_0 a_Mr_is_33 (dko_42 _)
theorem d_Mr_is_34 : decode b_Mr_is 34 = .ok (.iconst 2, 1) := dk_0 a_Mr_is_34 (dko_5 _)
theorem d_Mr_is_35 : decode b_Mr_is 35 = .ok (.invokevirtual 77, 3) := dk_U2 a_Mr_is_35 (dko_182 _) rfl
theorem d_Mr_is_38 : decode b_Mr_is 38 = .ok (.iload_n 3, 1) := dk_0 a_Mr_is_38 (dko_29 _)
theorem d_Mr_is_39 : decode b_Mr_is 39 = .ok (.if_icmp .ne 74, 3) := dk_S2 a_Mr_is_39 (dko_160 _) (by decide +kernel)
theorem d_Mr_is_42 : decode b_Mr_is 42 = .ok (.iload 8, 2) := dk_U1 a_Mr_is_42 (dko_21 _) rfl
theorem d_Mr_is_44 : decode b_Mr_is 44 = .ok (.iconst 4, 1) := dk_0 a_Mr_is_44 (dko_7 _)
theorem d_Mr_is_45 : decode b_Mr_is 45 = .ok (.if_icmp .lt 13, 3) := dk_S2 a_Mr_is_45 (dko_161 _) (by decide +kernel)
theorem d_Mr_is_48 : decode b_Mr_is 48 = .ok (.aload_n 0, 1) := dk_0 a_Mr_is_48 (dko_42 _)
theorem d_Mr_is_49 : decode b_Mr_is 49 = .ok (.iconst 3, 1) := dk_0 a_Mr_is_49 (dko_6 _)
theorem d_Mr_is_50 : decode b_Mr_is 50 = .ok (.invokevirtual 77, 3) := dk_U2 a_Mr_is_50 (dko_182 _) rfl
theorem d_Mr_is_53 : decode b_Mr_is 53 = .ok (.iload 4, 2) := dk_U1 a_Mr_is_53 (dko_21 _) rfl
theorem d_Mr_is_55 : decode b_Mr_is 55 = .ok (.if_icmp .ne 58, 3) := dk_S2 a_Mr_is_55 (dko_160 _) (by decide +kernel)
theorem d_Mr_is_58 : decode b_Mr_is 58 = .ok (.iload 8, 2) := dk_U1 a_Mr_is_58 (dko_21 _) rfl
theorem d_Mr_is_60 : decode b_Mr_is 60 = .ok (.iconst 5, 1) := dk_0 a_Mr_is_60 (dko_8 _)
theorem d_Mr_is_61 : decode b_Mr_is 61 = .ok (.if_icmp .lt 13, 3) := dk_S2 a_Mr_is_61 (dko_161 _) (by decide +kernel)
theorem d_Mr_is_64 : decode b_Mr_is 64 = .ok (.aload_n 0, 1) := dk_0 a_Mr_is_64 (dko_42 _)
theorem d_Mr_is_65 : decode b_Mr_is 65 = .ok (.iconst 4, 1) := dk_0 a_Mr_is_65 (dko_7 _)
theorem d_Mr_is_66 : decode b_Mr_is 66 = .ok (.invokevirtual 77, 3) := dk_U2 a_Mr_is_66 (dko_182 _) rfl
theorem d_Mr_is_69 : decode b_Mr_is 69 = .ok (.iload 5, 2) := dk_U1 a_Mr_is_69 (dko_21 _) rfl
theorem d_Mr_is_71 : decode b_Mr_is 71 = .ok (.if_icmp .ne 42, 3) := dk_S2 a_Mr_is_71 (dko_160 _) (by decide +kernel)
theorem d_Mr_is_74 : decode b_Mr_is 74 = .ok (.iload 8, 2) := dk_U1 a_Mr_is_74 (dko_21 _) rfl
theorem d_Mr_is_76 : decode b_Mr_is 76 = .ok (.bipush 6, 2) := dk_S1 a_Mr_is_76 (dko_16 _) (by decide +kernel)
theorem d_Mr_is_78 : decode b_Mr_is 78 = .ok (.if_icmp .lt 13, 3) := dk_S2 a_Mr_is_78 (dko_161 _) (by decide +kernel)
theorem d_Mr_is_81 : decode b_Mr_is 81 = .ok (.aload_n 0, 1) := dk_0 a_Mr_is_81 (dko_42 _)
theorem d_Mr_is_82 : decode b_Mr_is 82 = .ok (.iconst 5, 1) := dk_0 a_Mr_is_82 (dko_8 _)
theorem d_Mr_is_83 : decode b_Mr_is 83 = .ok (.invokevirtual 77, 3) := dk_U2 a_Mr_is_83 (dko_182 _) rfl
theorem d_Mr_is_86 : decode b_Mr_is 86 = .ok (.iload 6, 2) := dk_U1 a_Mr_is_86 (dko_21 _) rfl
theorem d_Mr_is_88 : decode b_Mr_is 88 = .ok (.if_icmp .ne 25, 3) := dk_S2 a_Mr_is_88 (dko_160 _) (by decide +kernel)
theorem d_Mr_is_91 : decode b_Mr_is 91 = .ok (.iload 8, 2) := dk_U1 a_Mr_is_91 (dko_21 _) rfl
theorem d_Mr_is_93 : decode b_Mr_is 93 = .ok (.bipush 7, 2) := dk_S1 a_Mr_is_93 (dko_16 _) (by decide +kernel)
theorem d_Mr_is_95 : decode b_Mr_is 95 = .ok (.if_icmp .lt 14, 3) := dk_S2 a_Mr_is_95 (dko_161 _) (by decide +kernel)
theorem d_Mr_is_98 : decode b_Mr_is 98 = .ok (.aload_n 0, 1) := dk_0 a_Mr_is_98 (dko_42 _)
theorem d_Mr_is_99 : decode b_Mr_is 99 = .ok (.bipush 6, 2) := dk_S1 a_Mr_is_99 (dko_16 _) (by decide +kernel)
theorem d_Mr_is_101 : decode b_Mr_is 101 = .ok (.invokevirtual 77, 3) := dk_U2 a_Mr_is_101 (dko_182 _) rfl
theorem d_Mr_is_104 : decode b_Mr_is 104 = .ok (.iload 7, 2) := dk_U1 a_Mr_is_104 (dko_21 _) rfl
theorem d_Mr_is_106 : decode b_Mr_is 106 = .ok (.if_icmp .ne 7, 3) := dk_S2 a_Mr_is_106 (dko_160 _) (by decide +kernel)
theorem d_Mr_is_109 : decode b_Mr_is 109 = .ok (.iconst 1, 1) := dk_0 a_Mr_is_109 (dko_4 _)
theorem d_Mr_is_110 : decode b_Mr_is 110 = .ok (.goto 4, 3) := dk_S2 a_Mr_is_110 (dko_167 _) (by decide +kernel)
theorem d_Mr_is_113 : decode b_Mr_is 113 = .ok (.iconst 0, 1) := dk_0 a_Mr_is_113 (dko_3 _)
theorem d_Mr_is_114 : decode b_Mr_is 114 = .ok (.ireturn, 1) := dk_0 a_Mr_is_114 (dko_172 _)
set_option maxHeartbeats 4000000 in
set_option maxRecDepth 100000 in
theorem ok_Mr_is (pc : Nat) : OpS mt mi_Mr_is pc (cs_Mr_is pc) := (os_n (os_n (os_n (os_n (os_n (os_l (so_aload_n d_Mr_is_0 rfl)) (os_n (os_l (so_callV (iv := mi_Mr_wide) rfl rfl rfl mw_2130 mw_2132 sl_99 mw_20 mw_2133 ⟨by decide +kernel, by decide +kernel, by decide +kernel⟩ (by decide) d_Mr_is_1)) (os_l (so_iload d_Mr_is_4)))) (os_n (os_n (os_l (so_icne d_Mr_is_6 (by decide))) (os_l (so_aload_n d_Mr_is_9 rfl))) (os_n (os_l (so_iconst d_Mr_is_10 (by decide))) (os_l (so_callV (iv := mi_Mr_at) rfl rfl rfl mw_2134 mw_2136 sl_100 mw_20 mw_2137 ⟨by decide +kernel, by decide +kernel, by decide +kernel⟩ (by decide) d_Mr_is_11))))) (os_n (os_n (os_l (so_iload_n d_Mr_is_14 rfl)) (os_n (os_l (so_icne d_Mr_is_15 (by decide))) (os_l (so_aload_n d_Mr_is_18 rfl)))) (os_n (os_n (os_l (so_iconst d_Mr_is_19 (by decide))) (os_l (so_callV (iv := mi_Mr_at) rfl rfl rfl mw_2134 mw_2136 sl_100 mw_20 mw_2137 ⟨by decide +kernel, by decide +kernel, by decide +kernel⟩ (by decide) d_Mr_is_20))) (os_n (os_l (so_iload_n d_Mr_is_23 rfl)) (os_l (so_icne d_Mr_is_24 (by decide))))))) (os_n (os_n (os_n (os_l (so_iload d_Mr_is_27)) (os_n (os_l (so_iconst d_Mr_is_29 (by decide))) (os_l (so_iclt d_Mr_is_30 (by decide))))) (os_n (os_n (os_l (so_aload_n d_Mr_is_33 rfl)) (os_l (so_iconst d_Mr_is_34 (by decide)))) (os_n (os_l (so_callV (iv := mi_Mr_at) rfl rfl rfl mw_2134 mw_2136 sl_100 mw_20 mw_2137 ⟨by decide +kernel, by decide +kernel, by decide +kernel⟩ (by decide) d_Mr_is_35)) (os_l (so_iload_n d_Mr_is_38 rfl))))) (os_n (os_n (os_n (os_l (so_icne d_Mr_is_39 (by decide))) (os_l (so_iload d_Mr_is_42))) (os_n (os_l (so_iconst d_Mr_is_44 (by decide))) (os_l (so_iclt d_Mr_is_45 (by decide))))) (os_n (os_n (os_l (so_aload_n d_Mr_is_48 rfl)) (os_l (so_iconst d_Mr_is_49 (by decide)))) (os_n (os_l (so_callV (iv := mi_Mr_at) rfl rfl rfl mw_2134 mw_2136 sl_100 mw_20 mw_2137 ⟨by decide +kernel, by decide +kernel, by decide +kernel⟩ (by decide) d_Mr_is_50)) (os_l (so_iload d_Mr_is_53))))))) (os_n (os_n (os_n (os_n (os_l (so_icne d_Mr_is_55 (by decide))) (os_n (os_l (so_iload d_Mr_is_58)) (os_l (so_iconst d_Mr_is_60 (by decide))))) (os_n (os_n (os_l (so_iclt d_Mr_is_61 (by decide))) (os_l (so_aload_n d_Mr_is_64 rfl))) (os_n (os_l (so_iconst d_Mr_is_65 (by decide))) (os_l (so_callV (iv := mi_Mr_at) rfl rfl rfl mw_2134 mw_2136 sl_100 mw_20 mw_2137 ⟨by decide +kernel, by decide +kernel, by decide +kernel⟩ (by decide) d_Mr_is_66))))) (os_n (os_n (os_l (so_iload d_Mr_is_69)) (os_n (os_l (so_icne d_Mr_is_71 (by decide))) (os_l (so_iload d_Mr_is_74)))) (os_n (os_n (os_l (so_bipush d_Mr_is_76 (by decide))) (os_l (so_iclt d_Mr_is_78 (by decide)))) (os_n (os_l (so_aload_n d_Mr_is_81 rfl)) (os_l (so_iconst d_Mr_is_82 (by decide))))))) (os_n (os_n (os_n (os_l (so_callV (iv := mi_Mr_at) rfl rfl rfl mw_2134 mw_2136 sl_100 mw_20 mw_2137 ⟨by decide +kernel, by decide +kernel, by decide +kernel⟩ (by decide) d_Mr_is_83)) (os_n (os_l (so_iload d_Mr_is_86)) (os_l (so_icne d_Mr_is_88 (by decide))))) (os_n (os_n (os_l (so_iload d_Mr_is_91)) (os_l (so_bipush d_Mr_is_93 (by decide)))) (os_n (os_l (so_iclt d_Mr_is_95 (by decide))) (os_l (so_aload_n d_Mr_is_98 rfl))))) (os_n (os_n (os_n (os_l (so_bipush d_Mr_is_99 (by decide))) (os_l (so_callV (iv := mi_Mr_at) rfl rfl rfl mw_2134 mw_2136 sl_100 mw_20 mw_2137 ⟨by decide +kernel, by decide +kernel, by decide +kernel⟩ (by decide) d_Mr_is_101))) (os_n (os_l (so_iload d_Mr_is_104)) (os_l (so_icne d_Mr_is_106 (by decide))))) (os_n (os_n (os_l (so_iconst d_Mr_is_109 (by decide))) (os_l (so_goto d_Mr_is_110 (by decide)))) (os_n (os_l (so_iconst d_Mr_is_113 (by decide))) (os_l (so_zreturn rfl d_Mr_is_114))))))))
abbrev t_Mr_isOne_22 : List UInt8 := 172 :: []
abbrev t_Mr_isOne_21 : List UInt8 := 3 :: t_Mr_isOne_22
abbrev t_Mr_isOne_18 : List UInt8 := 167 :: 0 :: 4 :: t_Mr_isOne_21
abbrev t_Mr_isOne_17 : List UInt8 := 4 :: t_Mr_isOne_18
abbrev t_Mr_isOne_14 : List UInt8 := 160 :: 0 :: 7 :: t_Mr_isOne_17
abbrev t_Mr_isOne_13 : List UInt8 := 27 :: t_Mr_isOne_14
abbrev t_Mr_isOne_10 : List UInt8 := 182 :: 0 :: 77 :: t_Mr_isOne_13
abbrev t_Mr_isOne_9 : List UInt8 := 3 :: t_Mr_isOne_10
abbrev t_Mr_isOne_8 : List UInt8 := 42 :: t_Mr_isOne_9
abbrev t_Mr_isOne_5 : List UInt8 := 160 :: 0 :: 16 :: t_Mr_isOne_8
abbrev t_Mr_isOne_4 : List UInt8 := 4 :: t_Mr_isOne_5
abbrev t_Mr_isOne_1 : List UInt8 := 182 :: 0 :: 73 :: t_Mr_isOne_4
abbrev t_Mr_isOne_0 : List UInt8 := 42 :: t_Mr_isOne_1
theorem a_Mr_isOne_0 : dk_at b_Mr_isOne 0 t_Mr_isOne_0 := dk_start (by decide +kernel)
theorem a_Mr_isOne_1 : dk_at b_Mr_isOne 1 t_Mr_isOne_1 := dk_go 1 a_Mr_isOne_0 rfl
theorem a_Mr_isOne_4 : dk_at b_Mr_isOne 4 t_Mr_isOne_4 := dk_go 3 a_Mr_isOne_1 rfl
theorem a_Mr_isOne_5 : dk_at b_Mr_isOne 5 t_Mr_isOne_5 := dk_go 1 a_Mr_isOne_4 rfl
theorem a_Mr_isOne_8 : dk_at b_Mr_isOne 8 t_Mr_isOne_8 := dk_go 3 a_Mr_isOne_5 rfl
theorem a_Mr_isOne_9 : dk_at b_Mr_isOne 9 t_Mr_isOne_9 := dk_go 1 a_Mr_isOne_8 rfl
theorem a_Mr_isOne_10 : dk_at b_Mr_isOne 10 t_Mr_isOne_10 := dk_go 1 a_Mr_isOne_9 rfl
theorem a_Mr_isOne_13 : dk_at b_Mr_isOne 13 t_Mr_isOne_13 := dk_go 3 a_Mr_isOne_10 rfl
theorem a_Mr_isOne_14 : dk_at b_Mr_isOne 14 t_Mr_isOne_14 := dk_go 1 a_Mr_isOne_13 rfl
theorem a_Mr_isOne_17 : dk_at b_Mr_isOne 17 t_Mr_isOne_17 := dk_go 3 a_Mr_isOne_14 rfl
theorem a_Mr_isOne_18 : dk_at b_Mr_isOne 18 t_Mr_isOne_18 := dk_go 1 a_Mr_isOne_17 rfl
theorem a_Mr_isOne_21 : dk_at b_Mr_isOne 21 t_Mr_isOne_21 := dk_go 3 a_Mr_isOne_18 rfl
theorem a_Mr_isOne_22 : dk_at b_Mr_isOne 22 t_Mr_isOne_22 := dk_go 1 a_Mr_isOne_21 rfl
theorem d_Mr_isOne_0 : decode b_Mr_isOne 0 = .ok (.aload_n 0, 1) := dk_0 a_Mr_isOne_0 (dko_42 _)
theorem d_Mr_isOne_1 : decode b_Mr_isOne 1 = .ok (.invokevirtual 73, 3) := dk_U2 a_Mr_isOne_1 (dko_182 _) rfl
theorem d_Mr_isOne_4 : decode b_Mr_isOne 4 = .ok (.iconst 1, 1) := dk_0 a_Mr_isOne_4 (dko_4 _)
theorem d_Mr_isOne_5 : decode b_Mr_isOne 5 = .ok (.if_icmp .ne 16, 3) := dk_S2 a_Mr_isOne_5 (dko_160 _) (by decide +kernel)
theorem d_Mr_isOne_8 : decode b_Mr_isOne 8 = .ok (.aload_n 0, 1) := dk_0 a_Mr_isOne_8 (dko_42 _)
theorem d_Mr_isOne_9 : decode b_Mr_isOne 9 = .ok (.iconst 0, 1) := dk_0 a_Mr_isOne_9 (dko_3 _)
theorem d_Mr_isOne_10 : decode b_Mr_isOne 10 = .ok (.invokevirtual 77, 3) := dk_U2 a_Mr_isOne_10 (dko_182 _) rfl
theorem d_Mr_isOne_13 : decode b_Mr_isOne 13 = .ok (.iload_n 1, 1) := dk_0 a_Mr_isOne_13 (dko_27 _)
theorem d_Mr_isOne_14 : decode b_Mr_isOne 14 = .ok (.if_icmp .ne 7, 3) := dk_S2 a_Mr_isOne_14 (dko_160 _) (by decide +kernel)
theorem d_Mr_isOne_17 : decode b_Mr_isOne 17 = .ok (.iconst 1, 1) := dk_0 a_Mr_isOne_17 (dko_4 _)
theorem d_Mr_isOne_18 : decode b_Mr_isOne 18 = .ok (.goto 4, 3) := dk_S2 a_Mr_isOne_18 (dko_167 _) (by decide +kernel)
theorem d_Mr_isOne_21 : decode b_Mr_isOne 21 = .ok (.iconst 0, 1) := dk_0 a_Mr_isOne_21 (dko_3 _)
theorem d_Mr_isOne_22 : decode b_Mr_isOne 22 = .ok (.ireturn, 1) := dk_0 a_Mr_isOne_22 (dko_172 _)
set_option maxHeartbeats 4000000 in
set_option maxRecDepth 100000 in
theorem ok_Mr_isOne (pc : Nat) : OpS mt mi_Mr_isOne pc (cs_Mr_isOne pc) := (os_n (os_n (os_n (os_l (so_aload_n d_Mr_isOne_0 rfl)) (os_n (os_l (so_callV (iv := mi_Mr_wide) rfl rfl rfl mw_2130 mw_2132 sl_99 mw_20 mw_2133 ⟨by decide +kernel, by decide +kernel, by decide +kernel⟩ (by decide) d_Mr_isOne_1)) (os_l (so_iconst d_Mr_isOne_4 (by decide))))) (os_n (os_l (so_icne d_Mr_isOne_5 (by decide))) (os_n (os_l (so_aload_n d_Mr_isOne_8 rfl)) (os_l (so_iconst d_Mr_isOne_9 (by decide)))))) (os_n (os_n (os_l (so_callV (iv := mi_Mr_at) rfl rfl rfl mw_2134 mw_2136 sl_100 mw_20 mw_2137 ⟨by decide +kernel, by decide +kernel, by decide +kernel⟩ (by decide) d_Mr_isOne_10)) (os_n (os_l (so_iload_n d_Mr_isOne_13 rfl)) (os_l (so_icne d_Mr_isOne_14 (by decide))))) (os_n (os_n (os_l (so_iconst d_Mr_isOne_17 (by decide))) (os_l (so_goto d_Mr_isOne_18 (by decide)))) (os_n (os_l (so_iconst d_Mr_isOne_21 (by decide))) (os_l (so_zreturn rfl d_Mr_isOne_22))))))
abbrev t_Mr_number_103 : List UInt8 := 172 :: []
abbrev t_Mr_number_102 : List UInt8 := 2 :: t_Mr_number_103
abbrev t_Mr_number_99 : List UInt8 := 167 :: 0 :: 4 :: t_Mr_number_102
abbrev t_Mr_number_97 : List UInt8 := 21 :: 4 :: t_Mr_number_99
abbrev t_Mr_number_94 : List UInt8 := 163 :: 0 :: 8 :: t_Mr_number_97
abbrev t_Mr_number_93 : List UInt8 := 28 :: t_Mr_number_94
abbrev t_Mr_number_91 : List UInt8 := 21 :: 4 :: t_Mr_number_93
abbrev t_Mr_number_88 : List UInt8 := 167 :: 255 :: 210 :: t_Mr_number_91
abbrev t_Mr_number_85 : List UInt8 := 132 :: 5 :: 1 :: t_Mr_number_88
abbrev t_Mr_number_83 : List UInt8 := 54 :: 4 :: t_Mr_number_85
abbrev t_Mr_number_82 : List UInt8 := 100 :: t_Mr_number_83
abbrev t_Mr_number_80 : List UInt8 := 16 :: 48 :: t_Mr_number_82
abbrev t_Mr_number_79 : List UInt8 := 96 :: t_Mr_number_80
abbrev t_Mr_number_77 : List UInt8 := 21 :: 6 :: t_Mr_number_79
abbrev t_Mr_number_76 : List UInt8 := 104 :: t_Mr_number_77
abbrev t_Mr_number_74 : List UInt8 := 21 :: 4 :: t_Mr_number_76
abbrev t_Mr_number_72 : List UInt8 := 16 :: 10 :: t_Mr_number_74
abbrev t_Mr_number_71 : List UInt8 := 172 :: t_Mr_number_72
abbrev t_Mr_number_70 : List UInt8 := 2 :: t_Mr_number_71
abbrev t_Mr_number_67 : List UInt8 := 164 :: 0 :: 5 :: t_Mr_number_70
abbrev t_Mr_number_65 : List UInt8 := 16 :: 57 :: t_Mr_number_67
abbrev t_Mr_number_63 : List UInt8 := 21 :: 6 :: t_Mr_number_65
abbrev t_Mr_number_60 : List UInt8 := 161 :: 0 :: 10 :: t_Mr_number_63
abbrev t_Mr_number_58 : List UInt8 := 16 :: 48 :: t_Mr_number_60
abbrev t_Mr_number_56 : List UInt8 := 21 :: 6 :: t_Mr_number_58
abbrev t_Mr_number_54 : List UInt8 := 54 :: 6 :: t_Mr_number_56
abbrev t_Mr_number_51 : List UInt8 := 182 :: 0 :: 77 :: t_Mr_number_54
abbrev t_Mr_number_49 : List UInt8 := 21 :: 5 :: t_Mr_number_51
abbrev t_Mr_number_48 : List UInt8 := 42 :: t_Mr_number_49
abbrev t_Mr_number_45 : List UInt8 := 162 :: 0 :: 46 :: t_Mr_number_48
abbrev t_Mr_number_44 : List UInt8 := 29 :: t_Mr_number_45
abbrev t_Mr_number_42 : List UInt8 := 21 :: 5 :: t_Mr_number_44
abbrev t_Mr_number_40 : List UInt8 := 54 :: 5 :: t_Mr_number_42
abbrev t_Mr_number_39 : List UInt8 := 27 :: t_Mr_number_40
abbrev t_Mr_number_37 : List UInt8 := 54 :: 4 :: t_Mr_number_39
abbrev t_Mr_number_36 : List UInt8 := 3 :: t_Mr_number_37
abbrev t_Mr_number_35 : List UInt8 := 172 :: t_Mr_number_36
abbrev t_Mr_number_34 : List UInt8 := 2 :: t_Mr_number_35
abbrev t_Mr_number_31 : List UInt8 := 164 :: 0 :: 5 :: t_Mr_number_34
abbrev t_Mr_number_30 : List UInt8 := 96 :: t_Mr_number_31
abbrev t_Mr_number_29 : List UInt8 := 7 :: t_Mr_number_30
abbrev t_Mr_number_28 : List UInt8 := 27 :: t_Mr_number_29
abbrev t_Mr_number_27 : List UInt8 := 29 :: t_Mr_number_28
abbrev t_Mr_number_24 : List UInt8 := 163 :: 0 :: 10 :: t_Mr_number_27
abbrev t_Mr_number_23 : List UInt8 := 96 :: t_Mr_number_24
abbrev t_Mr_number_22 : List UInt8 := 4 :: t_Mr_number_23
abbrev t_Mr_number_21 : List UInt8 := 27 :: t_Mr_number_22
abbrev t_Mr_number_20 : List UInt8 := 29 :: t_Mr_number_21
abbrev t_Mr_number_17 : List UInt8 := 160 :: 0 :: 10 :: t_Mr_number_20
abbrev t_Mr_number_15 : List UInt8 := 16 :: 48 :: t_Mr_number_17
abbrev t_Mr_number_12 : List UInt8 := 182 :: 0 :: 77 :: t_Mr_number_15
abbrev t_Mr_number_11 : List UInt8 := 27 :: t_Mr_number_12
abbrev t_Mr_number_10 : List UInt8 := 42 :: t_Mr_number_11
abbrev t_Mr_number_7 : List UInt8 := 164 :: 0 :: 27 :: t_Mr_number_10
abbrev t_Mr_number_6 : List UInt8 := 27 :: t_Mr_number_7
abbrev t_Mr_number_5 : List UInt8 := 29 :: t_Mr_number_6
abbrev t_Mr_number_4 : List UInt8 := 62 :: t_Mr_number_5
abbrev t_Mr_number_1 : List UInt8 := 182 :: 0 :: 73 :: t_Mr_number_4
abbrev t_Mr_number_0 : List UInt8 := 42 :: t_Mr_number_1
theorem a_Mr_number_0 : dk_at b_Mr_number 0 t_Mr_number_0 := dk_start (by decide +kernel)
theorem a_Mr_number_1 : dk_at b_Mr_number 1 t_Mr_number_1 := dk_go 1 a_Mr_number_0 rfl
theorem a_Mr_number_4 : dk_at b_Mr_number 4 t_Mr_number_4 := dk_go 3 a_Mr_number_1 rfl
theorem a_Mr_number_5 : dk_at b_Mr_number 5 t_Mr_number_5 := dk_go 1 a_Mr_number_4 rfl
theorem a_Mr_number_6 : dk_at b_Mr_number 6 t_Mr_number_6 := dk_go 1 a_Mr_number_5 rfl
theorem a_Mr_number_7 : dk_at b_Mr_number 7 t_Mr_number_7 := dk_go 1 a_Mr_number_6 rfl
theorem a_Mr_number_10 : dk_at b_Mr_number 10 t_Mr_number_10 := dk_go 3 a_Mr_number_7 rfl
theorem a_Mr_number_11 : dk_at b_Mr_number 11 t_Mr_number_11 := dk_go 1 a_Mr_number_10 rfl
theorem a_Mr_number_12 : dk_at b_Mr_number 12 t_Mr_number_12 := dk_go 1 a_Mr_number_11 rfl
theorem a_Mr_number_15 : dk_at b_Mr_number 15 t_Mr_number_15 := dk_go 3 a_Mr_number_12 rfl
theorem a_Mr_number_17 : dk_at b_Mr_number 17 t_Mr_number_17 := dk_go 2 a_Mr_number_15 rfl
theorem a_Mr_number_20 : dk_at b_Mr_number 20 t_Mr_number_20 := dk_go 3 a_Mr_number_17 rfl
theorem a_Mr_number_21 : dk_at b_Mr_number 21 t_Mr_number_21 := dk_go 1 a_Mr_number_20 rfl
theorem a_Mr_number_22 : dk_at b_Mr_number 22 t_Mr_number_22 := dk_go 1 a_Mr_number_21 rfl
theorem a_Mr_number_23 : dk_at b_Mr_number 23 t_Mr_number_23 := dk_go 1 a_Mr_number_22 rfl
theorem a_Mr_number_24 : dk_at b_Mr_number 24 t_Mr_number_24 := dk_go 1 a_Mr_number_23 rfl
theorem a_Mr_number_27 : dk_at b_Mr_number 27 t_Mr_number_27 := dk_go 3 a_Mr_number_24 rfl
theorem a_Mr_number_28 : dk_at b_Mr_number 28 t_Mr_number_28 := dk_go 1 a_Mr_number_27 rfl
theorem a_Mr_number_29 : dk_at b_Mr_number 29 t_Mr_number_29 := dk_go 1 a_Mr_number_28 rfl
theorem a_Mr_number_30 : dk_at b_Mr_number 30 t_Mr_number_30 := dk_go 1 a_Mr_number_29 rfl
theorem a_Mr_number_31 : dk_at b_Mr_number 31 t_Mr_number_31 := dk_go 1 a_Mr_number_30 rfl
theorem a_Mr_number_34 : dk_at b_Mr_number 34 t_Mr_number_34 := dk_go 3 a_Mr_number_31 rfl
theorem a_Mr_number_35 : dk_at b_Mr_number 35 t_Mr_number_35 := dk_go 1 a_Mr_number_34 rfl
theorem a_Mr_number_36 : dk_at b_Mr_number 36 t_Mr_number_36 := dk_go 1 a_Mr_number_35 rfl
theorem a_Mr_number_37 : dk_at b_Mr_number 37 t_Mr_number_37 := dk_go 1 a_Mr_number_36 rfl
theorem a_Mr_number_39 : dk_at b_Mr_number 39 t_Mr_number_39 := dk_go 2 a_Mr_number_37 rfl
theorem a_Mr_number_40 : dk_at b_Mr_number 40 t_Mr_number_40 := dk_go 1 a_Mr_number_39 rfl
theorem a_Mr_number_42 : dk_at b_Mr_number 42 t_Mr_number_42 := dk_go 2 a_Mr_number_40 rfl
theorem a_Mr_number_44 : dk_at b_Mr_number 44 t_Mr_number_44 := dk_go 2 a_Mr_number_42 rfl
theorem a_Mr_number_45 : dk_at b_Mr_number 45 t_Mr_number_45 := dk_go 1 a_Mr_number_44 rfl
theorem a_Mr_number_48 : dk_at b_Mr_number 48 t_Mr_number_48 := dk_go 3 a_Mr_number_45 rfl
theorem a_Mr_number_49 : dk_at b_Mr_number 49 t_Mr_number_49 := dk_go 1 a_Mr_number_48 rfl
theorem a_Mr_number_51 : dk_at b_Mr_number 51 t_Mr_number_51 := dk_go 2 a_Mr_number_49 rfl
theorem a_Mr_number_54 : dk_at b_Mr_number 54 t_Mr_number_54 := dk_go 3 a_Mr_number_51 rfl
theorem a_Mr_number_56 : dk_at b_Mr_number 56 t_Mr_number_56 := dk_go 2 a_Mr_number_54 rfl
theorem a_Mr_number_58 : dk_at b_Mr_number 58 t_Mr_number_58 := dk_go 2 a_Mr_number_56 rfl
theorem a_Mr_number_60 : dk_at b_Mr_number 60 t_Mr_number_60 := dk_go 2 a_Mr_number_58 rfl
theorem a_Mr_number_63 : dk_at b_Mr_number 63 t_Mr_number_63 := dk_go 3 a_Mr_number_60 rfl
theorem a_Mr_number_65 : dk_at b_Mr_number 65 t_Mr_number_65 := dk_go 2 a_Mr_number_63 rfl
theorem a_Mr_number_67 : dk_at b_Mr_number 67 t_Mr_number_67 := dk_go 2 a_Mr_number_65 rfl
theorem a_Mr_number_70 : dk_at b_Mr_number 70 t_Mr_number_70 := dk_go 3 a_Mr_number_67 rfl
theorem a_Mr_number_71 : dk_at b_Mr_number 71 t_Mr_number_71 := dk_go 1 a_Mr_number_70 rfl
theorem a_Mr_number_72 : dk_at b_Mr_number 72 t_Mr_number_72 := dk_go 1 a_Mr_number_71 rfl
theorem a_Mr_number_74 : dk_at b_Mr_number 74 t_Mr_number_74 := dk_go 2 a_Mr_number_72 rfl
theorem a_Mr_number_76 : dk_at b_Mr_number 76 t_Mr_number_76 := dk_go 2 a_Mr_number_74 rfl
theorem a_Mr_number_77 : dk_at b_Mr_number 77 t_Mr_number_77 := dk_go 1 a_Mr_number_76 rfl
theorem a_Mr_number_79 : dk_at b_Mr_number 79 t_Mr_number_79 := dk_go 2 a_Mr_number_77 rfl
theorem a_Mr_number_80 : dk_at b_Mr_number 80 t_Mr_number_80 := dk_go 1 a_Mr_number_79 rfl
theorem a_Mr_number_82 : dk_at b_Mr_number 82 t_Mr_number_82 := dk_go 2 a_Mr_number_80 rfl
theorem a_Mr_number_83 : dk_at b_Mr_number 83 t_Mr_number_83 := dk_go 1 a_Mr_number_82 rfl
theorem a_Mr_number_85 : dk_at b_Mr_number 85 t_Mr_number_85 := dk_go 2 a_Mr_number_83 rfl
theorem a_Mr_number_88 : dk_at b_Mr_number 88 t_Mr_number_88 := dk_go 3 a_Mr_number_85 rfl
theorem a_Mr_number_91 : dk_at b_Mr_number 91 t_Mr_number_91 := dk_go 3 a_Mr_number_88 rfl
theorem a_Mr_number_93 : dk_at b_Mr_number 93 t_Mr_number_93 := dk_go 2 a_Mr_number_91 rfl
theorem a_Mr_number_94 : dk_at b_Mr_number 94 t_Mr_number_94 := dk_go 1 a_Mr_number_93 rfl
theorem a_Mr_number_97 : dk_at b_Mr_number 97 t_Mr_number_97 := dk_go 3 a_Mr_number_94 rfl
theorem a_Mr_number_99 : dk_at b_Mr_number 99 t_Mr_number_99 := dk_go 2 a_Mr_number_97 rfl
theorem a_Mr_number_102 : dk_at b_Mr_number 102 t_Mr_number_102 := dk_go 3 a_Mr_number_99 rfl
theorem a_Mr_number_103 : dk_at b_Mr_number 103 t_Mr_number_103 := dk_go 1 a_Mr_number_102 rfl
theorem d_Mr_number_0 : decode b_Mr_number 0 = .ok (.aload_n 0, 1) := dk_0 a_Mr_number_0 (dko_42 _)
theorem d_Mr_number_1 : decode b_Mr_number 1 = .ok (.invokevirtual 73, 3) := dk_U2 a_Mr_number_1 (dko_182 _) rfl
theorem d_Mr_number_4 : decode b_Mr_number 4 = .ok (.istore_n 3, 1) := dk_0 a_Mr_number_4 (dko_62 _)
theorem d_Mr_number_5 : decode b_Mr_number 5 = .ok (.iload_n 3, 1) := dk_0 a_Mr_number_5 (dko_29 _)
theorem d_Mr_number_6 : decode b_Mr_number 6 = .ok (.iload_n 1, 1) := dk_0 a_Mr_number_6 (dko_27 _)
theorem d_Mr_number_7 : decode b_Mr_number 7 = .ok (.if_icmp .le 27, 3) := dk_S2 a_Mr_number_7 (dko_164 _) (by decide +kernel)
theorem d_Mr_number_10 : decode b_Mr_number 10 = .ok (.aload_n 0, 1) := dk_0 a_Mr_number_10 (dko_42 _)
theorem d_Mr_number_11 : decode b_Mr_number 11 = .ok (.iload_n 1, 1) := dk_0 a_Mr_number_11 (dko_27 _)
theorem d_Mr_number_12 : decode b_Mr_number 12 = .ok (.invokevirtual 77, 3) := dk_U2 a_Mr_number_12 (dko_182 _) rfl
theorem d_Mr_number_15 : decode b_Mr_number 15 = .ok (.bipush 48, 2) := dk_S1 a_Mr_number_15 (dko_16 _) (by decide +kernel)
theorem d_Mr_number_17 : decode b_Mr_number 17 = .ok (.if_icmp .ne 10, 3) := dk_S2 a_Mr_number_17 (dko_160 _) (by decide +kernel)
theorem d_Mr_number_20 : decode b_Mr_number 20 = .ok (.iload_n 3, 1) := dk_0 a_Mr_number_20 (dko_29 _)
theorem d_Mr_number_21 : decode b_Mr_number 21 = .ok (.iload_n 1, 1) := dk_0 a_Mr_number_21 (dko_27 _)
theorem d_Mr_number_22 : decode b_Mr_number 22 = .ok (.iconst 1, 1) := dk_0 a_Mr_number_22 (dko_4 _)
theorem d_Mr_number_23 : decode b_Mr_number 23 = .ok (.iadd, 1) := dk_0 a_Mr_number_23 (dko_96 _)
theorem d_Mr_number_24 : decode b_Mr_number 24 = .ok (.if_icmp .gt 10, 3) := dk_S2 a_Mr_number_24 (dko_163 _) (by decide +kernel)
theorem d_Mr_number_27 : decode b_Mr_number 27 = .ok (.iload_n 3, 1) := dk_0 a_Mr_number_27 (dko_29 _)
theorem d_Mr_number_28 : decode b_Mr_number 28 = .ok (.iload_n 1, 1) := dk_0 a_Mr_number_28 (dko_27 _)
theorem d_Mr_number_29 : decode b_Mr_number 29 = .ok (.iconst 4, 1) := dk_0 a_Mr_number_29 (dko_7 _)
theorem d_Mr_number_30 : decode b_Mr_number 30 = .ok (.iadd, 1) := dk_0 a_Mr_number_30 (dko_96 _)
theorem d_Mr_number_31 : decode b_Mr_number 31 = .ok (.if_icmp .le 5, 3) := dk_S2 a_Mr_number_31 (dko_164 _) (by decide +kernel)
theorem d_Mr_number_34 : decode b_Mr_number 34 = .ok (.iconst (-1), 1) := dk_0 a_Mr_number_34 (dko_2 _)
theorem d_Mr_number_35 : decode b_Mr_number 35 = .ok (.ireturn, 1) := dk_0 a_Mr_number_35 (dko_172 _)
theorem d_Mr_number_36 : decode b_Mr_number 36 = .ok (.iconst 0, 1) := dk_0 a_Mr_number_36 (dko_3 _)
theorem d_Mr_number_37 : decode b_Mr_number 37 = .ok (.istore 4, 2) := dk_U1 a_Mr_number_37 (dko_54 _) rfl
theorem d_Mr_number_39 : decode b_Mr_number 39 = .ok (.iload_n 1, 1) := dk_0 a_Mr_number_39 (dko_27 _)
theorem d_Mr_number_40 : decode b_Mr_number 40 = .ok (.istore 5, 2) := dk_U1 a_Mr_number_40 (dko_54 _) rfl
theorem d_Mr_number_42 : decode b_Mr_number 42 = .ok (.iload 5, 2) := dk_U1 a_Mr_number_42 (dko_21 _) rfl
theorem d_Mr_number_44 : decode b_Mr_number 44 = .ok (.iload_n 3, 1) := dk_0 a_Mr_number_44 (dko_29 _)
theorem d_Mr_number_45 : decode b_Mr_number 45 = .ok (.if_icmp .ge 46, 3) := dk_S2 a_Mr_number_45 (dko_162 _) (by decide +kernel)
theorem d_Mr_number_48 : decode b_Mr_number 48 = .ok (.aload_n 0, 1) := dk_0 a_Mr_number_48 (dko_42 _)
theorem d_Mr_number_49 : decode b_Mr_number 49 = .ok (.iload 5, 2) := dk_U1 a_Mr_number_49 (dko_21 _) rfl
theorem d_Mr_number_51 : decode b_Mr_number 51 = .ok (.invokevirtual 77, 3) := dk_U2 a_Mr_number_51 (dko_182 _) rfl
theorem d_Mr_number_54 : decode b_Mr_number 54 = .ok (.istore 6, 2) := dk_U1 a_Mr_number_54 (dko_54 _) rfl
theorem d_Mr_number_56 : decode b_Mr_number 56 = .ok (.iload 6, 2) := dk_U1 a_Mr_number_56 (dko_21 _) rfl
theorem d_Mr_number_58 : decode b_Mr_number 58 = .ok (.bipush 48, 2) := dk_S1 a_Mr_number_58 (dko_16 _) (by decide +kernel)
theorem d_Mr_number_60 : decode b_Mr_number 60 = .ok (.if_icmp .lt 10, 3) := dk_S2 a_Mr_number_60 (dko_161 _) (by decide +kernel)
theorem d_Mr_number_63 : decode b_Mr_number 63 = .ok (.iload 6, 2) := dk_U1 a_Mr_number_63 (dko_21 _) rfl
theorem d_Mr_number_65 : decode b_Mr_number 65 = .ok (.bipush 57, 2) := dk_S1 a_Mr_number_65 (dko_16 _) (by decide +kernel)
theorem d_Mr_number_67 : decode b_Mr_number 67 = .ok (.if_icmp .le 5, 3) := dk_S2 a_Mr_number_67 (dko_164 _) (by decide +kernel)
theorem d_Mr_number_70 : decode b_Mr_number 70 = .ok (.iconst (-1), 1) := dk_0 a_Mr_number_70 (dko_2 _)
theorem d_Mr_number_71 : decode b_Mr_number 71 = .ok (.ireturn, 1) := dk_0 a_Mr_number_71 (dko_172 _)
theorem d_Mr_number_72 : decode b_Mr_number 72 = .ok (.bipush 10, 2) := dk_S1 a_Mr_number_72 (dko_16 _) (by decide +kernel)
theorem d_Mr_number_74 : decode b_Mr_number 74 = .ok (.iload 4, 2) := dk_U1 a_Mr_number_74 (dko_21 _) rfl
theorem d_Mr_number_76 : decode b_Mr_number 76 = .ok (.imul, 1) := dk_0 a_Mr_number_76 (dko_104 _)
theorem d_Mr_number_77 : decode b_Mr_number 77 = .ok (.iload 6, 2) := dk_U1 a_Mr_number_77 (dko_21 _) rfl
theorem d_Mr_number_79 : decode b_Mr_number 79 = .ok (.iadd, 1) := dk_0 a_Mr_number_79 (dko_96 _)
theorem d_Mr_number_80 : decode b_Mr_number 80 = .ok (.bipush 48, 2) := dk_S1 a_Mr_number_80 (dko_16 _) (by decide +kernel)
theorem d_Mr_number_82 : decode b_Mr_number 82 = .ok (.isub, 1) := dk_0 a_Mr_number_82 (dko_100 _)
theorem d_Mr_number_83 : decode b_Mr_number 83 = .ok (.istore 4, 2) := dk_U1 a_Mr_number_83 (dko_54 _) rfl
theorem d_Mr_number_85 : decode b_Mr_number 85 = .ok (.iinc 5 1, 3) := dk_US a_Mr_number_85 (dko_132 _) (by decide +kernel)
theorem d_Mr_number_88 : decode b_Mr_number 88 = .ok (.goto (-46), 3) := dk_S2 a_Mr_number_88 (dko_167 _) (by decide +kernel)
theorem d_Mr_number_91 : decode b_Mr_number 91 = .ok (.iload 4, 2) := dk_U1 a_Mr_number_91 (dko_21 _) rfl
theorem d_Mr_number_93 : decode b_Mr_number 93 = .ok (.iload_n 2, 1) := dk_0 a_Mr_number_93 (dko_28 _)
theorem d_Mr_number_94 : decode b_Mr_number 94 = .ok (.if_icmp .gt 8, 3) := dk_S2 a_Mr_number_94 (dko_163 _) (by decide +kernel)
theorem d_Mr_number_97 : decode b_Mr_number 97 = .ok (.iload 4, 2) := dk_U1 a_Mr_number_97 (dko_21 _) rfl
theorem d_Mr_number_99 : decode b_Mr_number 99 = .ok (.goto 4, 3) := dk_S2 a_Mr_number_99 (dko_167 _) (by decide +kernel)
theorem d_Mr_number_102 : decode b_Mr_number 102 = .ok (.iconst (-1), 1) := dk_0 a_Mr_number_102 (dko_2 _)
theorem d_Mr_number_103 : decode b_Mr_number 103 = .ok (.ireturn, 1) := dk_0 a_Mr_number_103 (dko_172 _)
set_option maxHeartbeats 4000000 in
set_option maxRecDepth 100000 in
theorem ok_Mr_number (pc : Nat) : OpS mt mi_Mr_number pc (cs_Mr_number pc) := (os_n (os_n (os_n (os_n (os_n (os_l (so_aload_n d_Mr_number_0 rfl)) (os_n (os_l (so_callV (iv := mi_Mr_wide) rfl rfl rfl mw_2130 mw_2132 sl_99 mw_20 mw_2133 ⟨by decide +kernel, by decide +kernel, by decide +kernel⟩ (by decide) d_Mr_number_1)) (os_l (so_istore_n d_Mr_number_4 rfl (by decide))))) (os_n (os_n (os_l (so_iload_n d_Mr_number_5 rfl)) (os_l (so_iload_n d_Mr_number_6 rfl))) (os_n (os_l (so_icle d_Mr_number_7 (by decide))) (os_l (so_aload_n d_Mr_number_10 rfl))))) (os_n (os_n (os_l (so_iload_n d_Mr_number_11 rfl)) (os_n (os_l (so_callV (iv := mi_Mr_at) rfl rfl rfl mw_2134 mw_2136 sl_100 mw_20 mw_2137 ⟨by decide +kernel, by decide +kernel, by decide +kernel⟩ (by decide) d_Mr_number_12)) (os_l (so_bipush d_Mr_number_15 (by decide))))) (os_n (os_n (os_l (so_icne d_Mr_number_17 (by decide))) (os_l (so_iload_n d_Mr_number_20 rfl))) (os_n (os_l (so_iload_n d_Mr_number_21 rfl)) (os_l (so_iconst d_Mr_number_22 (by decide))))))) (os_n (os_n (os_n (os_l (so_iadd d_Mr_number_23)) (os_n (os_l (so_icgt d_Mr_number_24 (by decide))) (os_l (so_iload_n d_Mr_number_27 rfl)))) (os_n (os_n (os_l (so_iload_n d_Mr_number_28 rfl)) (os_l (so_iconst d_Mr_number_29 (by decide)))) (os_n (os_l (so_iadd d_Mr_number_30)) (os_l (so_icle d_Mr_number_31 (by decide)))))) (os_n (os_n (os_n (os_l (so_iconst d_Mr_number_34 (by decide))) (os_l (so_ireturn rfl d_Mr_number_35))) (os_n (os_l (so_iconst d_Mr_number_36 (by decide))) (os_l (so_istore d_Mr_number_37 (by decide))))) (os_n (os_n (os_l (so_iload_n d_Mr_number_39 rfl)) (os_l (so_istore d_Mr_number_40 (by decide)))) (os_n (os_l (so_iload d_Mr_number_42)) (os_l (so_iload_n d_Mr_number_44 rfl))))))) (os_n (os_n (os_n (os_n (os_l (so_icge d_Mr_number_45 (by decide))) (os_n (os_l (so_aload_n d_Mr_number_48 rfl)) (os_l (so_iload d_Mr_number_49)))) (os_n (os_n (os_l (so_callV (iv := mi_Mr_at) rfl rfl rfl mw_2134 mw_2136 sl_100 mw_20 mw_2137 ⟨by decide +kernel, by decide +kernel, by decide +kernel⟩ (by decide) d_Mr_number_51)) (os_l (so_istore d_Mr_number_54 (by decide)))) (os_n (os_l (so_iload d_Mr_number_56)) (os_l (so_bipush d_Mr_number_58 (by decide)))))) (os_n (os_n (os_n (os_l (so_iclt d_Mr_number_60 (by decide))) (os_l (so_iload d_Mr_number_63))) (os_n (os_l (so_bipush d_Mr_number_65 (by decide))) (os_l (so_icle d_Mr_number_67 (by decide))))) (os_n (os_n (os_l (so_iconst d_Mr_number_70 (by decide))) (os_l (so_ireturn rfl d_Mr_number_71))) (os_n (os_l (so_bipush d_Mr_number_72 (by decide))) (os_l (so_iload d_Mr_number_74)))))) (os_n (os_n (os_n (os_l (so_imul d_Mr_number_76)) (os_n (os_l (so_iload d_Mr_number_77)) (os_l (so_iadd d_Mr_number_79)))) (os_n (os_n (os_l (so_bipush d_Mr_number_80 (by decide))) (os_l (so_isub d_Mr_number_82))) (os_n (os_l (so_istore d_Mr_number_83 (by decide))) (os_l (so_iinc d_Mr_number_85 (by decide) (by decide)))))) (os_n (os_n (os_n (os_l (so_goto d_Mr_number_88 (by decide))) (os_l (so_iload d_Mr_number_91))) (os_n (os_l (so_iload_n d_Mr_number_93 rfl)) (os_l (so_icgt d_Mr_number_94 (by decide))))) (os_n (os_n (os_l (so_iload d_Mr_number_97)) (os_l (so_goto d_Mr_number_99 (by decide)))) (os_n (os_l (so_iconst d_Mr_number_102 (by decide))) (os_l (so_ireturn rfl d_Mr_number_103))))))))
abbrev t_Mr_act0_21 : List UInt8 := 172 :: []
abbrev t_Mr_act0_20 : List UInt8 := 2 :: t_Mr_act0_21
abbrev t_Mr_act0_17 : List UInt8 := 167 :: 0 :: 4 :: t_Mr_act0_20
abbrev t_Mr_act0_14 : List UInt8 := 182 :: 0 :: 81 :: t_Mr_act0_17
abbrev t_Mr_act0_12 : List UInt8 := 16 :: 31 :: t_Mr_act0_14
abbrev t_Mr_act0_11 : List UInt8 := 4 :: t_Mr_act0_12
abbrev t_Mr_act0_10 : List UInt8 := 42 :: t_Mr_act0_11
abbrev t_Mr_act0_7 : List UInt8 := 160 :: 0 :: 13 :: t_Mr_act0_10
abbrev t_Mr_act0_5 : List UInt8 := 16 :: 97 :: t_Mr_act0_7
abbrev t_Mr_act0_2 : List UInt8 := 182 :: 0 :: 77 :: t_Mr_act0_5
abbrev t_Mr_act0_1 : List UInt8 := 3 :: t_Mr_act0_2
abbrev t_Mr_act0_0 : List UInt8 := 42 :: t_Mr_act0_1
theorem a_Mr_act0_0 : dk_at b_Mr_act0 0 t_Mr_act0_0 := dk_start (by decide +kernel)
theorem a_Mr_act0_1 : dk_at b_Mr_act0 1 t_Mr_act0_1 := dk_go 1 a_Mr_act0_0 rfl
theorem a_Mr_act0_2 : dk_at b_Mr_act0 2 t_Mr_act0_2 := dk_go 1 a_Mr_act0_1 rfl
theorem a_Mr_act0_5 : dk_at b_Mr_act0 5 t_Mr_act0_5 := dk_go 3 a_Mr_act0_2 rfl
theorem a_Mr_act0_7 : dk_at b_Mr_act0 7 t_Mr_act0_7 := dk_go 2 a_Mr_act0_5 rfl
theorem a_Mr_act0_10 : dk_at b_Mr_act0 10 t_Mr_act0_10 := dk_go 3 a_Mr_act0_7 rfl
theorem a_Mr_act0_11 : dk_at b_Mr_act0 11 t_Mr_act0_11 := dk_go 1 a_Mr_act0_10 rfl
theorem a_Mr_act0_12 : dk_at b_Mr_act0 12 t_Mr_act0_12 := dk_go 1 a_Mr_act0_11 rfl
theorem a_Mr_act0_14 : dk_at b_Mr_act0 14 t_Mr_act0_14 := dk_go 2 a_Mr_act0_12 rfl
theorem a_Mr_act0_17 : dk_at b_Mr_act0 17 t_Mr_act0_17 := dk_go 3 a_Mr_act0_14 rfl
theorem a_Mr_act0_20 : dk_at b_Mr_act0 20 t_Mr_act0_20 := dk_go 3 a_Mr_act0_17 rfl
theorem a_Mr_act0_21 : dk_at b_Mr_act0 21 t_Mr_act0_21 := dk_go 1 a_Mr_act0_20 rfl
theorem d_Mr_act0_0 : decode b_Mr_act0 0 = .ok (.aload_n 0, 1) := dk_0 a_Mr_act0_0 (dko_42 _)
theorem d_Mr_act0_1 : decode b_Mr_act0 1 = .ok (.iconst 0, 1) := dk_0 a_Mr_act0_1 (dko_3 _)
theorem d_Mr_act0_2 : decode b_Mr_act0 2 = .ok (.invokevirtual 77, 3) := dk_U2 a_Mr_act0_2 (dko_182 _) rfl
theorem d_Mr_act0_5 : decode b_Mr_act0 5 = .ok (.bipush 97, 2) := dk_S1 a_Mr_act0_5 (dko_16 _) (by decide +kernel)
theorem d_Mr_act0_7 : decode b_Mr_act0 7 = .ok (.if_icmp .ne 13, 3) := dk_S2 a_Mr_act0_7 (dko_160 _) (by decide +kernel)
theorem d_Mr_act0_10 : decode b_Mr_act0 10 = .ok (.aload_n 0, 1) := dk_0 a_Mr_act0_10 (dko_42 _)
theorem d_Mr_act0_11 : decode b_Mr_act0 11 = .ok (.iconst 1, 1) := dk_0 a_Mr_act0_11 (dko_4 _)
theorem d_Mr_act0_12 : decode b_Mr_act0 12 = .ok (.bipush 31, 2) := dk_S1 a_Mr_act0_12 (dko_16 _) (by decide +kernel)
theorem d_Mr_act0_14 : decode b_Mr_act0 14 = .ok (.invokevirtual 81, 3) := dk_U2 a_Mr_act0_14 (dko_182 _) rfl
theorem d_Mr_act0_17 : decode b_Mr_act0 17 = .ok (.goto 4, 3) := dk_S2 a_Mr_act0_17 (dko_167 _) (by decide +kernel)
theorem d_Mr_act0_20 : decode b_Mr_act0 20 = .ok (.iconst (-1), 1) := dk_0 a_Mr_act0_20 (dko_2 _)
theorem d_Mr_act0_21 : decode b_Mr_act0 21 = .ok (.ireturn, 1) := dk_0 a_Mr_act0_21 (dko_172 _)
set_option maxHeartbeats 4000000 in
set_option maxRecDepth 100000 in
theorem ok_Mr_act0 (pc : Nat) : OpS mt mi_Mr_act0 pc (cs_Mr_act0 pc) := (os_n (os_n (os_n (os_l (so_aload_n d_Mr_act0_0 rfl)) (os_n (os_l (so_iconst d_Mr_act0_1 (by decide))) (os_l (so_callV (iv := mi_Mr_at) rfl rfl rfl mw_2134 mw_2136 sl_100 mw_20 mw_2137 ⟨by decide +kernel, by decide +kernel, by decide +kernel⟩ (by decide) d_Mr_act0_2)))) (os_n (os_l (so_bipush d_Mr_act0_5 (by decide))) (os_n (os_l (so_icne d_Mr_act0_7 (by decide))) (os_l (so_aload_n d_Mr_act0_10 rfl))))) (os_n (os_n (os_l (so_iconst d_Mr_act0_11 (by decide))) (os_n (os_l (so_bipush d_Mr_act0_12 (by decide))) (os_l (so_callV (iv := mi_Mr_number) rfl rfl rfl mw_2146 mw_2148 sl_103 mw_20 mw_2149 ⟨by decide +kernel, by decide +kernel, by decide +kernel⟩ (by decide) d_Mr_act0_14)))) (os_n (os_l (so_goto d_Mr_act0_17 (by decide))) (os_n (os_l (so_iconst d_Mr_act0_20 (by decide))) (os_l (so_ireturn rfl d_Mr_act0_21))))))
abbrev t_Mr_conditionWord_21 : List UInt8 := 172 :: []
abbrev t_Mr_conditionWord_20 : List UInt8 := 2 :: t_Mr_conditionWord_21
abbrev t_Mr_conditionWord_17 : List UInt8 := 167 :: 0 :: 4 :: t_Mr_conditionWord_20
abbrev t_Mr_conditionWord_14 : List UInt8 := 182 :: 0 :: 81 :: t_Mr_conditionWord_17
abbrev t_Mr_conditionWord_12 : List UInt8 := 16 :: 15 :: t_Mr_conditionWord_14
abbrev t_Mr_conditionWord_11 : List UInt8 := 4 :: t_Mr_conditionWord_12
abbrev t_Mr_conditionWord_10 : List UInt8 := 42 :: t_Mr_conditionWord_11
abbrev t_Mr_conditionWord_7 : List UInt8 := 160 :: 0 :: 13 :: t_Mr_conditionWord_10
abbrev t_Mr_conditionWord_5 : List UInt8 := 16 :: 99 :: t_Mr_conditionWord_7
abbrev t_Mr_conditionWord_2 : List UInt8 := 182 :: 0 :: 77 :: t_Mr_conditionWord_5
abbrev t_Mr_conditionWord_1 : List UInt8 := 3 :: t_Mr_conditionWord_2
abbrev t_Mr_conditionWord_0 : List UInt8 := 42 :: t_Mr_conditionWord_1
theorem a_Mr_conditionWord_0 : dk_at b_Mr_conditionWord 0 t_Mr_conditionWord_0 := dk_start (by decide +kernel)
theorem a_Mr_conditionWord_1 : dk_at b_Mr_conditionWord 1 t_Mr_conditionWord_1 := dk_go 1 a_Mr_conditionWord_0 rfl
theorem a_Mr_conditionWord_2 : dk_at b_Mr_conditionWord 2 t_Mr_conditionWord_2 := dk_go 1 a_Mr_conditionWord_1 rfl
theorem a_Mr_conditionWord_5 : dk_at b_Mr_conditionWord 5 t_Mr_conditionWord_5 := dk_go 3 a_Mr_conditionWord_2 rfl
theorem a_Mr_conditionWord_7 : dk_at b_Mr_conditionWord 7 t_Mr_conditionWord_7 := dk_go 2 a_Mr_conditionWord_5 rfl
theorem a_Mr_conditionWord_10 : dk_at b_Mr_conditionWord 10 t_Mr_conditionWord_10 := dk_go 3 a_Mr_conditionWord_7 rfl
theorem a_Mr_conditionWord_11 : dk_at b_Mr_conditionWord 11 t_Mr_conditionWord_11 := dk_go 1 a_Mr_conditionWord_10 rfl
theorem a_Mr_conditionWord_12 : dk_at b_Mr_conditionWord 12 t_Mr_conditionWord_12 := dk_go 1 a_Mr_conditionWord_11 rfl
theorem a_Mr_conditionWord_14 : dk_at b_Mr_conditionWord 14 t_Mr_conditionWord_14 := dk_go 2 a_Mr_conditionWord_12 rfl
theorem a_Mr_conditionWord_17 : dk_at b_Mr_conditionWord 17 t_Mr_conditionWord_17 := dk_go 3 a_Mr_conditionWord_14 rfl
theorem a_Mr_conditionWord_20 : dk_at b_Mr_conditionWord 20 t_Mr_conditionWord_20 := dk_go 3 a_Mr_conditionWord_17 rfl
theorem a_Mr_conditionWord_21 : dk_at b_Mr_conditionWord 21 t_Mr_conditionWord_21 := dk_go 1 a_Mr_conditionWord_20 rfl
theorem d_Mr_conditionWord_0 : decode b_Mr_conditionWord 0 = .ok (.aload_n 0, 1) := dk_0 a_Mr_conditionWord_0 (dko_42 _)
theorem d_Mr_conditionWord_1 : decode b_Mr_conditionWord 1 = .ok (.iconst 0, 1) := dk_0 a_Mr_conditionWord_1 (dko_3 _)
theorem d_Mr_conditionWord_2 : decode b_Mr_conditionWord 2 = .ok (.invokevirtual 77, 3) := dk_U2 a_Mr_conditionWord_2 (dko_182 _) rfl
theorem d_Mr_conditionWord_5 : decode b_Mr_conditionWord 5 = .ok (.bipush 99, 2) := dk_S1 a_Mr_conditionWord_5 (dko_16 _) (by decide +kernel)
theorem d_Mr_conditionWord_7 : decode b_Mr_conditionWord 7 = .ok (.if_icmp .ne 13, 3) := dk_S2 a_Mr_conditionWord_7 (dko_160 _) (by decide +kernel)
theorem d_Mr_conditionWord_10 : decode b_Mr_conditionWord 10 = .ok (.aload_n 0, 1) := dk_0 a_Mr_conditionWord_10 (dko_42 _)
theorem d_Mr_conditionWord_11 : decode b_Mr_conditionWord 11 = .ok (.iconst 1, 1) := dk_0 a_Mr_conditionWord_11 (dko_4 _)
theorem d_Mr_conditionWord_12 : decode b_Mr_conditionWord 12 = .ok (.bipush 15, 2) := dk_S1 a_Mr_conditionWord_12 (dko_16 _) (by decide +kernel)
theorem d_Mr_conditionWord_14 : decode b_Mr_conditionWord 14 = .ok (.invokevirtual 81, 3) := dk_U2 a_Mr_conditionWord_14 (dko_182 _) rfl
theorem d_Mr_conditionWord_17 : decode b_Mr_conditionWord 17 = .ok (.goto 4, 3) := dk_S2 a_Mr_conditionWord_17 (dko_167 _) (by decide +kernel)
theorem d_Mr_conditionWord_20 : decode b_Mr_conditionWord 20 = .ok (.iconst (-1), 1) := dk_0 a_Mr_conditionWord_20 (dko_2 _)
theorem d_Mr_conditionWord_21 : decode b_Mr_conditionWord 21 = .ok (.ireturn, 1) := dk_0 a_Mr_conditionWord_21 (dko_172 _)
set_option maxHeartbeats 4000000 in
set_option maxRecDepth 100000 in
theorem ok_Mr_conditionWord (pc : Nat) : OpS mt mi_Mr_conditionWord pc (cs_Mr_conditionWord pc) := (os_n (os_n (os_n (os_l (so_aload_n d_Mr_conditionWord_0 rfl)) (os_n (os_l (so_iconst d_Mr_conditionWord_1 (by decide))) (os_l (so_callV (iv := mi_Mr_at) rfl rfl rfl mw_2134 mw_2136 sl_100 mw_20 mw_2137 ⟨by decide +kernel, by decide +kernel, by decide +kernel⟩ (by decide) d_Mr_conditionWord_2)))) (os_n (os_l (so_bipush d_Mr_conditionWord_5 (by decide))) (os_n (os_l (so_icne d_Mr_conditionWord_7 (by decide))) (os_l (so_aload_n d_Mr_conditionWord_10 rfl))))) (os_n (os_n (os_l (so_iconst d_Mr_conditionWord_11 (by decide))) (os_n (os_l (so_bipush d_Mr_conditionWord_12 (by decide))) (os_l (so_callV (iv := mi_Mr_number) rfl rfl rfl mw_2146 mw_2148 sl_103 mw_20 mw_2149 ⟨by decide +kernel, by decide +kernel, by decide +kernel⟩ (by decide) d_Mr_conditionWord_14)))) (os_n (os_l (so_goto d_Mr_conditionWord_17 (by decide))) (os_n (os_l (so_iconst d_Mr_conditionWord_20 (by decide))) (os_l (so_ireturn rfl d_Mr_conditionWord_21))))))
abbrev t_Mr_node_53 : List UInt8 := 172 :: []
abbrev t_Mr_node_51 : List UInt8 := 21 :: 4 :: t_Mr_node_53
abbrev t_Mr_node_48 : List UInt8 := 181 :: 0 :: 88 :: t_Mr_node_51
abbrev t_Mr_node_47 : List UInt8 := 96 :: t_Mr_node_48
abbrev t_Mr_node_46 : List UInt8 := 4 :: t_Mr_node_47
abbrev t_Mr_node_43 : List UInt8 := 180 :: 0 :: 88 :: t_Mr_node_46
abbrev t_Mr_node_42 : List UInt8 := 89 :: t_Mr_node_43
abbrev t_Mr_node_41 : List UInt8 := 42 :: t_Mr_node_42
abbrev t_Mr_node_40 : List UInt8 := 79 :: t_Mr_node_41
abbrev t_Mr_node_39 : List UInt8 := 29 :: t_Mr_node_40
abbrev t_Mr_node_37 : List UInt8 := 21 :: 4 :: t_Mr_node_39
abbrev t_Mr_node_34 : List UInt8 := 180 :: 0 :: 28 :: t_Mr_node_37
abbrev t_Mr_node_33 : List UInt8 := 42 :: t_Mr_node_34
abbrev t_Mr_node_32 : List UInt8 := 79 :: t_Mr_node_33
abbrev t_Mr_node_31 : List UInt8 := 28 :: t_Mr_node_32
abbrev t_Mr_node_29 : List UInt8 := 21 :: 4 :: t_Mr_node_31
abbrev t_Mr_node_26 : List UInt8 := 180 :: 0 :: 25 :: t_Mr_node_29
abbrev t_Mr_node_25 : List UInt8 := 42 :: t_Mr_node_26
abbrev t_Mr_node_24 : List UInt8 := 79 :: t_Mr_node_25
abbrev t_Mr_node_23 : List UInt8 := 27 :: t_Mr_node_24
abbrev t_Mr_node_21 : List UInt8 := 21 :: 4 :: t_Mr_node_23
abbrev t_Mr_node_18 : List UInt8 := 180 :: 0 :: 22 :: t_Mr_node_21
abbrev t_Mr_node_17 : List UInt8 := 42 :: t_Mr_node_18
abbrev t_Mr_node_15 : List UInt8 := 54 :: 4 :: t_Mr_node_17
abbrev t_Mr_node_14 : List UInt8 := 96 :: t_Mr_node_15
abbrev t_Mr_node_11 : List UInt8 := 180 :: 0 :: 88 :: t_Mr_node_14
abbrev t_Mr_node_10 : List UInt8 := 42 :: t_Mr_node_11
abbrev t_Mr_node_9 : List UInt8 := 104 :: t_Mr_node_10
abbrev t_Mr_node_8 : List UInt8 := 100 :: t_Mr_node_9
abbrev t_Mr_node_5 : List UInt8 := 180 :: 0 :: 85 :: t_Mr_node_8
abbrev t_Mr_node_4 : List UInt8 := 42 :: t_Mr_node_5
abbrev t_Mr_node_3 : List UInt8 := 4 :: t_Mr_node_4
abbrev t_Mr_node_0 : List UInt8 := 17 :: 11 :: 184 :: t_Mr_node_3
theorem a_Mr_node_0 : dk_at b_Mr_node 0 t_Mr_node_0 := dk_start (by decide +kernel)
theorem a_Mr_node_3 : dk_at b_Mr_node 3 t_Mr_node_3 := dk_go 3 a_Mr_node_0 rfl
theorem a_Mr_node_4 : dk_at b_Mr_node 4 t_Mr_node_4 := dk_go 1 a_Mr_node_3 rfl
theorem a_Mr_node_5 : dk_at b_Mr_node 5 t_Mr_node_5 := dk_go 1 a_Mr_node_4 rfl
theorem a_Mr_node_8 : dk_at b_Mr_node 8 t_Mr_node_8 := dk_go 3 a_Mr_node_5 rfl
theorem a_Mr_node_9 : dk_at b_Mr_node 9 t_Mr_node_9 := dk_go 1 a_Mr_node_8 rfl
theorem a_Mr_node_10 : dk_at b_Mr_node 10 t_Mr_node_10 := dk_go 1 a_Mr_node_9 rfl
theorem a_Mr_node_11 : dk_at b_Mr_node 11 t_Mr_node_11 := dk_go 1 a_Mr_node_10 rfl
theorem a_Mr_node_14 : dk_at b_Mr_node 14 t_Mr_node_14 := dk_go 3 a_Mr_node_11 rfl
theorem a_Mr_node_15 : dk_at b_Mr_node 15 t_Mr_node_15 := dk_go 1 a_Mr_node_14 rfl
theorem a_Mr_node_17 : dk_at b_Mr_node 17 t_Mr_node_17 := dk_go 2 a_Mr_node_15 rfl
theorem a_Mr_node_18 : dk_at b_Mr_node 18 t_Mr_node_18 := dk_go 1 a_Mr_node_17 rfl
theorem a_Mr_node_21 : dk_at b_Mr_node 21 t_Mr_node_21 := dk_go 3 a_Mr_node_18 rfl
theorem a_Mr_node_23 : dk_at b_Mr_node 23 t_Mr_node_23 := dk_go 2 a_Mr_node_21 rfl
theorem a_Mr_node_24 : dk_at b_Mr_node 24 t_Mr_node_24 := dk_go 1 a_Mr_node_23 rfl
theorem a_Mr_node_25 : dk_at b_Mr_node 25 t_Mr_node_25 := dk_go 1 a_Mr_node_24 rfl
theorem a_Mr_node_26 : dk_at b_Mr_node 26 t_Mr_node_26 := dk_go 1 a_Mr_node_25 rfl
theorem a_Mr_node_29 : dk_at b_Mr_node 29 t_Mr_node_29 := dk_go 3 a_Mr_node_26 rfl
theorem a_Mr_node_31 : dk_at b_Mr_node 31 t_Mr_node_31 := dk_go 2 a_Mr_node_29 rfl
theorem a_Mr_node_32 : dk_at b_Mr_node 32 t_Mr_node_32 := dk_go 1 a_Mr_node_31 rfl
theorem a_Mr_node_33 : dk_at b_Mr_node 33 t_Mr_node_33 := dk_go 1 a_Mr_node_32 rfl
theorem a_Mr_node_34 : dk_at b_Mr_node 34 t_Mr_node_34 := dk_go 1 a_Mr_node_33 rfl
theorem a_Mr_node_37 : dk_at b_Mr_node 37 t_Mr_node_37 := dk_go 3 a_Mr_node_34 rfl
theorem a_Mr_node_39 : dk_at b_Mr_node 39 t_Mr_node_39 := dk_go 2 a_Mr_node_37 rfl
theorem a_Mr_node_40 : dk_at b_Mr_node 40 t_Mr_node_40 := dk_go 1 a_Mr_node_39 rfl
theorem a_Mr_node_41 : dk_at b_Mr_node 41 t_Mr_node_41 := dk_go 1 a_Mr_node_40 rfl
theorem a_Mr_node_42 : dk_at b_Mr_node 42 t_Mr_node_42 := dk_go 1 a_Mr_node_41 rfl
theorem a_Mr_node_43 : dk_at b_Mr_node 43 t_Mr_node_43 := dk_go 1 a_Mr_node_42 rfl
theorem a_Mr_node_46 : dk_at b_Mr_node 46 t_Mr_node_46 := dk_go 3 a_Mr_node_43 rfl
theorem a_Mr_node_47 : dk_at b_Mr_node 47 t_Mr_node_47 := dk_go 1 a_Mr_node_46 rfl
theorem a_Mr_node_48 : dk_at b_Mr_node 48 t_Mr_node_48 := dk_go 1 a_Mr_node_47 rfl
theorem a_Mr_node_51 : dk_at b_Mr_node 51 t_Mr_node_51 := dk_go 3 a_Mr_node_48 rfl
theorem a_Mr_node_53 : dk_at b_Mr_node 53 t_Mr_node_53 := dk_go 2 a_Mr_node_51 rfl
theorem d_Mr_node_0 : decode b_Mr_node 0 = .ok (.sipush 3000, 3) := dk_S2 a_Mr_node_0 (dko_17 _) (by decide +kernel)
theorem d_Mr_node_3 : decode b_Mr_node 3 = .ok (.iconst 1, 1) := dk_0 a_Mr_node_3 (dko_4 _)
theorem d_Mr_node_4 : decode b_Mr_node 4 = .ok (.aload_n 0, 1) := dk_0 a_Mr_node_4 (dko_42 _)
theorem d_Mr_node_5 : decode b_Mr_node 5 = .ok (.getfield 85, 3) := dk_U2 a_Mr_node_5 (dko_180 _) rfl
theorem d_Mr_node_8 : decode b_Mr_node 8 = .ok (.isub, 1) := dk_0 a_Mr_node_8 (dko_100 _)
theorem d_Mr_node_9 : decode b_Mr_node 9 = .ok (.imul, 1) := dk_0 a_Mr_node_9 (dko_104 _)
theorem d_Mr_node_10 : decode b_Mr_node 10 = .ok (.aload_n 0, 1) := dk_0 a_Mr_node_10 (dko_42 _)
theorem d_Mr_node_11 : decode b_Mr_node 11 = .ok (.getfield 88, 3) := dk_U2 a_Mr_node_11 (dko_180 _) rfl
theorem d_Mr_node_14 : decode b_Mr_node 14 = .ok (.iadd, 1) := dk_0 a_Mr_node_14 (dko_96 _)
theorem d_Mr_node_15 : decode b_Mr_node 15 = .ok (.istore 4, 2) := dk_U1 a_Mr_node_15 (dko_54 _) rfl
theorem d_Mr_node_17 : decode b_Mr_node 17 = .ok (.aload_n 0, 1) := dk_0 a_Mr_node_17 (dko_42 _)
theorem d_Mr_node_18 : decode b_Mr_node 18 = .ok (.getfield 22, 3) := dk_U2 a_Mr_node_18 (dko_180 _) rfl
theorem d_Mr_node_21 : decode b_Mr_node 21 = .ok (.iload 4, 2) := dk_U1 a_Mr_node_21 (dko_21 _) rfl
theorem d_Mr_node_23 : decode b_Mr_node 23 = .ok (.iload_n 1, 1) := dk_0 a_Mr_node_23 (dko_27 _)
theorem d_Mr_node_24 : decode b_Mr_node 24 = .ok (.iastore, 1) := dk_0 a_Mr_node_24 (dko_79 _)
theorem d_Mr_node_25 : decode b_Mr_node 25 = .ok (.aload_n 0, 1) := dk_0 a_Mr_node_25 (dko_42 _)
theorem d_Mr_node_26 : decode b_Mr_node 26 = .ok (.getfield 25, 3) := dk_U2 a_Mr_node_26 (dko_180 _) rfl
theorem d_Mr_node_29 : decode b_Mr_node 29 = .ok (.iload 4, 2) := dk_U1 a_Mr_node_29 (dko_21 _) rfl
theorem d_Mr_node_31 : decode b_Mr_node 31 = .ok (.iload_n 2, 1) := dk_0 a_Mr_node_31 (dko_28 _)
theorem d_Mr_node_32 : decode b_Mr_node 32 = .ok (.iastore, 1) := dk_0 a_Mr_node_32 (dko_79 _)
theorem d_Mr_node_33 : decode b_Mr_node 33 = .ok (.aload_n 0, 1) := dk_0 a_Mr_node_33 (dko_42 _)
theorem d_Mr_node_34 : decode b_Mr_node 34 = .ok (.getfield 28, 3) := dk_U2 a_Mr_node_34 (dko_180 _) rfl
theorem d_Mr_node_37 : decode b_Mr_node 37 = .ok (.iload 4, 2) := dk_U1 a_Mr_node_37 (dko_21 _) rfl
theorem d_Mr_node_39 : decode b_Mr_node 39 = .ok (.iload_n 3, 1) := dk_0 a_Mr_node_39 (dko_29 _)
theorem d_Mr_node_40 : decode b_Mr_node 40 = .ok (.iastore, 1) := dk_0 a_Mr_node_40 (dko_79 _)
theorem d_Mr_node_41 : decode b_Mr_node 41 = .ok (.aload_n 0, 1) := dk_0 a_Mr_node_41 (dko_42 _)
theorem d_Mr_node_42 : decode b_Mr_node 42 = .ok (.dup, 1) := dk_0 a_Mr_node_42 (dko_89 _)
theorem d_Mr_node_43 : decode b_Mr_node 43 = .ok (.getfield 88, 3) := dk_U2 a_Mr_node_43 (dko_180 _) rfl
theorem d_Mr_node_46 : decode b_Mr_node 46 = .ok (.iconst 1, 1) := dk_0 a_Mr_node_46 (dko_4 _)
theorem d_Mr_node_47 : decode b_Mr_node 47 = .ok (.iadd, 1) := dk_0 a_Mr_node_47 (dko_96 _)
theorem d_Mr_node_48 : decode b_Mr_node 48 = .ok (.putfield 88, 3) := dk_U2 a_Mr_node_48 (dko_181 _) rfl
theorem d_Mr_node_51 : decode b_Mr_node 51 = .ok (.iload 4, 2) := dk_U1 a_Mr_node_51 (dko_21 _) rfl
theorem d_Mr_node_53 : decode b_Mr_node 53 = .ok (.ireturn, 1) := dk_0 a_Mr_node_53 (dko_172 _)
set_option maxHeartbeats 4000000 in
set_option maxRecDepth 100000 in
theorem ok_Mr_node (pc : Nat) : OpS mt mi_Mr_node pc (cs_Mr_node pc) := (os_n (os_n (os_n (os_n (os_n (os_l (so_sipush d_Mr_node_0 (by decide))) (os_l (so_iconst d_Mr_node_3 (by decide)))) (os_n (os_l (so_aload_n d_Mr_node_4 rfl)) (os_l (so_get (C := R_Mr) (T := F_Mr) (N := 25) (j := 12) in_Mr rfl (by decide) mw_1724 d_Mr_node_5)))) (os_n (os_n (os_l (so_isub d_Mr_node_8)) (os_l (so_imul d_Mr_node_9))) (os_n (os_l (so_aload_n d_Mr_node_10 rfl)) (os_l (so_get (C := R_Mr) (T := F_Mr) (N := 25) (j := 11) in_Mr rfl (by decide) mw_1723 d_Mr_node_11))))) (os_n (os_n (os_n (os_l (so_iadd d_Mr_node_14)) (os_l (so_istore d_Mr_node_15 (by decide)))) (os_n (os_l (so_aload_n d_Mr_node_17 rfl)) (os_l (so_get (C := R_Mr) (T := F_Mr) (N := 25) (j := 8) in_Mr rfl (by decide) mw_1720 d_Mr_node_18)))) (os_n (os_n (os_l (so_iload d_Mr_node_21)) (os_l (so_iload_n d_Mr_node_23 rfl))) (os_n (os_l (so_iastore d_Mr_node_24)) (os_l (so_aload_n d_Mr_node_25 rfl)))))) (os_n (os_n (os_n (os_n (os_l (so_get (C := R_Mr) (T := F_Mr) (N := 25) (j := 9) in_Mr rfl (by decide) mw_1721 d_Mr_node_26)) (os_l (so_iload d_Mr_node_29))) (os_n (os_l (so_iload_n d_Mr_node_31 rfl)) (os_l (so_iastore d_Mr_node_32)))) (os_n (os_n (os_l (so_aload_n d_Mr_node_33 rfl)) (os_l (so_get (C := R_Mr) (T := F_Mr) (N := 25) (j := 10) in_Mr rfl (by decide) mw_1722 d_Mr_node_34))) (os_n (os_l (so_iload d_Mr_node_37)) (os_l (so_iload_n d_Mr_node_39 rfl))))) (os_n (os_n (os_n (os_l (so_iastore d_Mr_node_40)) (os_l (so_aload_n d_Mr_node_41 rfl))) (os_n (os_l (so_dup d_Mr_node_42)) (os_l (so_get (C := R_Mr) (T := F_Mr) (N := 25) (j := 11) in_Mr rfl (by decide) mw_1723 d_Mr_node_43)))) (os_n (os_n (os_l (so_iconst d_Mr_node_46 (by decide))) (os_l (so_iadd d_Mr_node_47))) (os_n (os_l (so_putI (C := R_Mr) (T := F_Mr) (N := 25) (j := 11) in_Mr t_Mr_ok n_Mr rfl (by decide) mw_1723 rfl (by decide +kernel) d_Mr_node_48)) (os_n (os_l (so_iload d_Mr_node_51)) (os_l (so_ireturn rfl d_Mr_node_53))))))))
abbrev t_Mr_or_62 : List UInt8 := 172 :: []
abbrev t_Mr_or_61 : List UInt8 := 27 :: t_Mr_or_62
abbrev t_Mr_or_58 : List UInt8 := 167 :: 255 :: 203 :: t_Mr_or_61
abbrev t_Mr_or_57 : List UInt8 := 60 :: t_Mr_or_58
abbrev t_Mr_or_54 : List UInt8 := 182 :: 0 :: 98 :: t_Mr_or_57
abbrev t_Mr_or_53 : List UInt8 := 28 :: t_Mr_or_54
abbrev t_Mr_or_52 : List UInt8 := 27 :: t_Mr_or_53
abbrev t_Mr_or_50 : List UInt8 := 16 :: 18 :: t_Mr_or_52
abbrev t_Mr_or_49 : List UInt8 := 42 :: t_Mr_or_50
abbrev t_Mr_or_46 : List UInt8 := 167 :: 0 :: 11 :: t_Mr_or_49
abbrev t_Mr_or_45 : List UInt8 := 2 :: t_Mr_or_46
abbrev t_Mr_or_42 : List UInt8 := 156 :: 0 :: 7 :: t_Mr_or_45
abbrev t_Mr_or_41 : List UInt8 := 28 :: t_Mr_or_42
abbrev t_Mr_or_40 : List UInt8 := 61 :: t_Mr_or_41
abbrev t_Mr_or_37 : List UInt8 := 182 :: 0 :: 91 :: t_Mr_or_40
abbrev t_Mr_or_36 : List UInt8 := 42 :: t_Mr_or_37
abbrev t_Mr_or_33 : List UInt8 := 181 :: 0 :: 70 :: t_Mr_or_36
abbrev t_Mr_or_32 : List UInt8 := 96 :: t_Mr_or_33
abbrev t_Mr_or_31 : List UInt8 := 4 :: t_Mr_or_32
abbrev t_Mr_or_28 : List UInt8 := 180 :: 0 :: 70 :: t_Mr_or_31
abbrev t_Mr_or_27 : List UInt8 := 89 :: t_Mr_or_28
abbrev t_Mr_or_26 : List UInt8 := 42 :: t_Mr_or_27
abbrev t_Mr_or_23 : List UInt8 := 153 :: 0 :: 38 :: t_Mr_or_26
abbrev t_Mr_or_20 : List UInt8 := 182 :: 0 :: 94 :: t_Mr_or_23
abbrev t_Mr_or_19 : List UInt8 := 5 :: t_Mr_or_20
abbrev t_Mr_or_18 : List UInt8 := 3 :: t_Mr_or_19
abbrev t_Mr_or_17 : List UInt8 := 3 :: t_Mr_or_18
abbrev t_Mr_or_16 : List UInt8 := 3 :: t_Mr_or_17
abbrev t_Mr_or_15 : List UInt8 := 3 :: t_Mr_or_16
abbrev t_Mr_or_14 : List UInt8 := 3 :: t_Mr_or_15
abbrev t_Mr_or_12 : List UInt8 := 16 :: 114 :: t_Mr_or_14
abbrev t_Mr_or_10 : List UInt8 := 16 :: 111 :: t_Mr_or_12
abbrev t_Mr_or_9 : List UInt8 := 42 :: t_Mr_or_10
abbrev t_Mr_or_6 : List UInt8 := 155 :: 0 :: 55 :: t_Mr_or_9
abbrev t_Mr_or_5 : List UInt8 := 27 :: t_Mr_or_6
abbrev t_Mr_or_4 : List UInt8 := 60 :: t_Mr_or_5
abbrev t_Mr_or_1 : List UInt8 := 182 :: 0 :: 91 :: t_Mr_or_4
abbrev t_Mr_or_0 : List UInt8 := 42 :: t_Mr_or_1
theorem a_Mr_or_0 : dk_at b_Mr_or 0 t_Mr_or_0 := dk_start (by decide +kernel)
theorem a_Mr_or_1 : dk_at b_Mr_or 1 t_Mr_or_1 := dk_go 1 a_Mr_or_0 rfl
theorem a_Mr_or_4 : dk_at b_Mr_or 4 t_Mr_or_4 := dk_go 3 a_Mr_or_1 rfl
theorem a_Mr_or_5 : dk_at b_Mr_or 5 t_Mr_or_5 := dk_go 1 a_Mr_or_4 rfl
theorem a_Mr_or_6 : dk_at b_Mr_or 6 t_Mr_or_6 := dk_go 1 a_Mr_or_5 rfl
theorem a_Mr_or_9 : dk_at b_Mr_or 9 t_Mr_or_9 := dk_go 3 a_Mr_or_6 rfl
theorem a_Mr_or_10 : dk_at b_Mr_or 10 t_Mr_or_10 := dk_go 1 a_Mr_or_9 rfl
theorem a_Mr_or_12 : dk_at b_Mr_or 12 t_Mr_or_12 := dk_go 2 a_Mr_or_10 rfl
theorem a_Mr_or_14 : dk_at b_Mr_or 14 t_Mr_or_14 := dk_go 2 a_Mr_or_12 rfl
theorem a_Mr_or_15 : dk_at b_Mr_or 15 t_Mr_or_15 := dk_go 1 a_Mr_or_14 rfl
theorem a_Mr_or_16 : dk_at b_Mr_or 16 t_Mr_or_16 := dk_go 1 a_Mr_or_15 rfl
theorem a_Mr_or_17 : dk_at b_Mr_or 17 t_Mr_or_17 := dk_go 1 a_Mr_or_16 rfl
theorem a_Mr_or_18 : dk_at b_Mr_or 18 t_Mr_or_18 := dk_go 1 a_Mr_or_17 rfl
theorem a_Mr_or_19 : dk_at b_Mr_or 19 t_Mr_or_19 := dk_go 1 a_Mr_or_18 rfl
theorem a_Mr_or_20 : dk_at b_Mr_or 20 t_Mr_or_20 := dk_go 1 a_Mr_or_19 rfl
theorem a_Mr_or_23 : dk_at b_Mr_or 23 t_Mr_or_23 := dk_go 3 a_Mr_or_20 rfl
theorem a_Mr_or_26 : dk_at b_Mr_or 26 t_Mr_or_26 := dk_go 3 a_Mr_or_23 rfl
theorem a_Mr_or_27 : dk_at b_Mr_or 27 t_Mr_or_27 := dk_go 1 a_Mr_or_26 rfl
theorem a_Mr_or_28 : dk_at b_Mr_or 28 t_Mr_or_28 := dk_go 1 a_Mr_or_27 rfl
theorem a_Mr_or_31 : dk_at b_Mr_or 31 t_Mr_or_31 := dk_go 3 a_Mr_or_28 rfl
theorem a_Mr_or_32 : dk_at b_Mr_or 32 t_Mr_or_32 := dk_go 1 a_Mr_or_31 rfl
theorem a_Mr_or_33 : dk_at b_Mr_or 33 t_Mr_or_33 := dk_go 1 a_Mr_or_32 rfl
theorem a_Mr_or_36 : dk_at b_Mr_or 36 t_Mr_or_36 := dk_go 3 a_Mr_or_33 rfl
theorem a_Mr_or_37 : dk_at b_Mr_or 37 t_Mr_or_37 := dk_go 1 a_Mr_or_36 rfl
theorem a_Mr_or_40 : dk_at b_Mr_or 40 t_Mr_or_40 := dk_go 3 a_Mr_or_37 rfl
theorem a_Mr_or_41 : dk_at b_Mr_or 41 t_Mr_or_41 := dk_go 1 a_Mr_or_40 rfl
theorem a_Mr_or_42 : dk_at b_Mr_or 42 t_Mr_or_42 := dk_go 1 a_Mr_or_41 rfl
theorem a_Mr_or_45 : dk_at b_Mr_or 45 t_Mr_or_45 := dk_go 3 a_Mr_or_42 rfl
theorem a_Mr_or_46 : dk_at b_Mr_or 46 t_Mr_or_46 := dk_go 1 a_Mr_or_45 rfl
theorem a_Mr_or_49 : dk_at b_Mr_or 49 t_Mr_or_49 := dk_go 3 a_Mr_or_46 rfl
theorem a_Mr_or_50 : dk_at b_Mr_or 50 t_Mr_or_50 := dk_go 1 a_Mr_or_49 rfl
theorem a_Mr_or_52 : dk_at b_Mr_or 52 t_Mr_or_52 := dk_go 2 a_Mr_or_50 rfl
theorem a_Mr_or_53 : dk_at b_Mr_or 53 t_Mr_or_53 := dk_go 1 a_Mr_or_52 rfl
theorem a_Mr_or_54 : dk_at b_Mr_or 54 t_Mr_or_54 := dk_go 1 a_Mr_or_53 rfl
theorem a_Mr_or_57 : dk_at b_Mr_or 57 t_Mr_or_57 := dk_go 3 a_Mr_or_54 rfl
theorem a_Mr_or_58 : dk_at b_Mr_or 58 t_Mr_or_58 := dk_go 1 a_Mr_or_57 rfl
theorem a_Mr_or_61 : dk_at b_Mr_or 61 t_Mr_or_61 := dk_go 3 a_Mr_or_58 rfl
theorem a_Mr_or_62 : dk_at b_Mr_or 62 t_Mr_or_62 := dk_go 1 a_Mr_or_61 rfl
theorem d_Mr_or_0 : decode b_Mr_or 0 = .ok (.aload_n 0, 1) := dk_0 a_Mr_or_0 (dko_42 _)
theorem d_Mr_or_1 : decode b_Mr_or 1 = .ok (.invokevirtual 91, 3) := dk_U2 a_Mr_or_1 (dko_182 _) rfl
theorem d_Mr_or_4 : decode b_Mr_or 4 = .ok (.istore_n 1, 1) := dk_0 a_Mr_or_4 (dko_60 _)
theorem d_Mr_or_5 : decode b_Mr_or 5 = .ok (.iload_n 1, 1) := dk_0 a_Mr_or_5 (dko_27 _)
theorem d_Mr_or_6 : decode b_Mr_or 6 = .ok (.ifCond .lt 55, 3) := dk_S2 a_Mr_or_6 (dko_155 _) (by decide +kernel)
theorem d_Mr_or_9 : decode b_Mr_or 9 = .ok (.aload_n 0, 1) := dk_0 a_Mr_or_9 (dko_42 _)
theorem d_Mr_or_10 : decode b_Mr_or 10 = .ok (.bipush 111, 2) := dk_S1 a_Mr_or_10 (dko_16 _) (by decide +kernel)
theorem d_Mr_or_12 : decode b_Mr_or 12 = .ok (.bipush 114, 2) := dk_S1 a_Mr_or_12 (dko_16 _) (by decide +kernel)
theorem d_Mr_or_14 : decode b_Mr_or 14 = .ok (.iconst 0, 1) := dk_0 a_Mr_or_14 (dko_3 _)
theorem d_Mr_or_15 : decode b_Mr_or 15 = .ok (.iconst 0, 1) := dk_0 a_Mr_or_15 (dko_3 _)
theorem d_Mr_or_16 : decode b_Mr_or 16 = .ok (.iconst 0, 1) := dk_0 a_Mr_or_16 (dko_3 _)
theorem d_Mr_or_17 : decode b_Mr_or 17 = .ok (.iconst 0, 1) := dk_0 a_Mr_or_17 (dko_3 _)
theorem d_Mr_or_18 : decode b_Mr_or 18 = .ok (.iconst 0, 1) := dk_0 a_Mr_or_18 (dko_3 _)
theorem d_Mr_or_19 : decode b_Mr_or 19 = .ok (.iconst 2, 1) := dk_0 a_Mr_or_19 (dko_5 _)
theorem d_Mr_or_20 : decode b_Mr_or 20 = .ok (.invokevirtual 94, 3) := dk_U2 a_Mr_or_20 (dko_182 _) rfl
theorem d_Mr_or_23 : decode b_Mr_or 23 = .ok (.ifCond .eq 38, 3) := dk_S2 a_Mr_or_23 (dko_153 _) (by decide +kernel)
theorem d_Mr_or_26 : decode b_Mr_or 26 = .ok (.aload_n 0, 1) := dk_0 a_Mr_or_26 (dko_42 _)
theorem d_Mr_or_27 : decode b_Mr_or 27 = .ok (.dup, 1) := dk_0 a_Mr_or_27 (dko_89 _)
theorem d_Mr_or_28 : decode b_Mr_or 28 = .ok (.getfield 70, 3) := dk_U2 a_Mr_or_28 (dko_180 _) rfl
theorem d_Mr_or_31 : decode b_Mr_or 31 = .ok (.iconst 1, 1) := dk_0 a_Mr_or_31 (dko_4 _)
theorem d_Mr_or_32 : decode b_Mr_or 32 = .ok (.iadd, 1) := dk_0 a_Mr_or_32 (dko_96 _)
theorem d_Mr_or_33 : decode b_Mr_or 33 = .ok (.putfield 70, 3) := dk_U2 a_Mr_or_33 (dko_181 _) rfl
theorem d_Mr_or_36 : decode b_Mr_or 36 = .ok (.aload_n 0, 1) := dk_0 a_Mr_or_36 (dko_42 _)
theorem d_Mr_or_37 : decode b_Mr_or 37 = .ok (.invokevirtual 91, 3) := dk_U2 a_Mr_or_37 (dko_182 _) rfl
theorem d_Mr_or_40 : decode b_Mr_or 40 = .ok (.istore_n 2, 1) := dk_0 a_Mr_or_40 (dko_61 _)
theorem d_Mr_or_41 : decode b_Mr_or 41 = .ok (.iload_n 2, 1) := dk_0 a_Mr_or_41 (dko_28 _)
theorem d_Mr_or_42 : decode b_Mr_or 42 = .ok (.ifCond .ge 7, 3) := dk_S2 a_Mr_or_42 (dko_156 _) (by decide +kernel)
theorem d_Mr_or_45 : decode b_Mr_or 45 = .ok (.iconst (-1), 1) := dk_0 a_Mr_or_45 (dko_2 _)
theorem d_Mr_or_46 : decode b_Mr_or 46 = .ok (.goto 11, 3) := dk_S2 a_Mr_or_46 (dko_167 _) (by decide +kernel)
theorem d_Mr_or_49 : decode b_Mr_or 49 = .ok (.aload_n 0, 1) := dk_0 a_Mr_or_49 (dko_42 _)
theorem d_Mr_or_50 : decode b_Mr_or 50 = .ok (.bipush 18, 2) := dk_S1 a_Mr_or_50 (dko_16 _) (by decide +kernel)
theorem d_Mr_or_52 : decode b_Mr_or 52 = .ok (.iload_n 1, 1) := dk_0 a_Mr_or_52 (dko_27 _)
theorem d_Mr_or_53 : decode b_Mr_or 53 = .ok (.iload_n 2, 1) := dk_0 a_Mr_or_53 (dko_28 _)
theorem d_Mr_or_54 : decode b_Mr_or 54 = .ok (.invokevirtual 98, 3) := dk_U2 a_Mr_or_54 (dko_182 _) rfl
theorem d_Mr_or_57 : decode b_Mr_or 57 = .ok (.istore_n 1, 1) := dk_0 a_Mr_or_57 (dko_60 _)
theorem d_Mr_or_58 : decode b_Mr_or 58 = .ok (.goto (-53), 3) := dk_S2 a_Mr_or_58 (dko_167 _) (by decide +kernel)
theorem d_Mr_or_61 : decode b_Mr_or 61 = .ok (.iload_n 1, 1) := dk_0 a_Mr_or_61 (dko_27 _)
theorem d_Mr_or_62 : decode b_Mr_or 62 = .ok (.ireturn, 1) := dk_0 a_Mr_or_62 (dko_172 _)
set_option maxHeartbeats 4000000 in
set_option maxRecDepth 100000 in
theorem ok_Mr_or (pc : Nat) : OpS mt mi_Mr_or pc (cs_Mr_or pc) := (os_n (os_n (os_n (os_n (os_n (os_l (so_aload_n d_Mr_or_0 rfl)) (os_l (so_callV (iv := mi_Mr_and) rfl rfl rfl mw_2154 mw_2156 sl_105 mw_20 mw_2157 ⟨by decide +kernel, by decide +kernel, by decide +kernel⟩ (by decide) d_Mr_or_1))) (os_n (os_l (so_istore_n d_Mr_or_4 rfl (by decide))) (os_l (so_iload_n d_Mr_or_5 rfl)))) (os_n (os_n (os_l (so_iflt d_Mr_or_6 (by decide))) (os_l (so_aload_n d_Mr_or_9 rfl))) (os_n (os_l (so_bipush d_Mr_or_10 (by decide))) (os_n (os_l (so_bipush d_Mr_or_12 (by decide))) (os_l (so_iconst d_Mr_or_14 (by decide))))))) (os_n (os_n (os_n (os_l (so_iconst d_Mr_or_15 (by decide))) (os_l (so_iconst d_Mr_or_16 (by decide)))) (os_n (os_l (so_iconst d_Mr_or_17 (by decide))) (os_n (os_l (so_iconst d_Mr_or_18 (by decide))) (os_l (so_iconst d_Mr_or_19 (by decide)))))) (os_n (os_n (os_l (so_callV (iv := mi_Mr_is) rfl rfl rfl mw_2126 mw_2128 sl_98 mw_20 mw_2129 ⟨by decide +kernel, by decide +kernel, by decide +kernel⟩ (by decide) d_Mr_or_20)) (os_l (so_ifeq d_Mr_or_23 (by decide)))) (os_n (os_l (so_aload_n d_Mr_or_26 rfl)) (os_n (os_l (so_dup d_Mr_or_27)) (os_l (so_get (C := R_Mr) (T := F_Mr) (N := 25) (j := 5) in_Mr rfl (by decide) mw_1717 d_Mr_or_28))))))) (os_n (os_n (os_n (os_n (os_l (so_iconst d_Mr_or_31 (by decide))) (os_l (so_iadd d_Mr_or_32))) (os_n (os_l (so_putI (C := R_Mr) (T := F_Mr) (N := 25) (j := 5) in_Mr t_Mr_ok n_Mr rfl (by decide) mw_1717 rfl (by decide +kernel) d_Mr_or_33)) (os_l (so_aload_n d_Mr_or_36 rfl)))) (os_n (os_n (os_l (so_callV (iv := mi_Mr_and) rfl rfl rfl mw_2154 mw_2156 sl_105 mw_20 mw_2157 ⟨by decide +kernel, by decide +kernel, by decide +kernel⟩ (by decide) d_Mr_or_37)) (os_l (so_istore_n d_Mr_or_40 rfl (by decide)))) (os_n (os_l (so_iload_n d_Mr_or_41 rfl)) (os_n (os_l (so_ifge d_Mr_or_42 (by decide))) (os_l (so_iconst d_Mr_or_45 (by decide))))))) (os_n (os_n (os_n (os_l (so_goto d_Mr_or_46 (by decide))) (os_l (so_aload_n d_Mr_or_49 rfl))) (os_n (os_l (so_bipush d_Mr_or_50 (by decide))) (os_n (os_l (so_iload_n d_Mr_or_52 rfl)) (os_l (so_iload_n d_Mr_or_53 rfl))))) (os_n (os_n (os_l (so_callV (iv := mi_Mr_node) rfl rfl rfl mw_2166 mw_2168 sl_108 mw_20 mw_2169 ⟨by decide +kernel, by decide +kernel, by decide +kernel⟩ (by decide) d_Mr_or_54)) (os_l (so_istore_n d_Mr_or_57 rfl (by decide)))) (os_n (os_l (so_goto d_Mr_or_58 (by decide))) (os_n (os_l (so_iload_n d_Mr_or_61 rfl)) (os_l (so_ireturn rfl d_Mr_or_62))))))))
abbrev t_Mr_and_63 : List UInt8 := 172 :: []
abbrev t_Mr_and_62 : List UInt8 := 27 :: t_Mr_and_63
abbrev t_Mr_and_59 : List UInt8 := 167 :: 255 :: 202 :: t_Mr_and_62
abbrev t_Mr_and_58 : List UInt8 := 60 :: t_Mr_and_59
abbrev t_Mr_and_55 : List UInt8 := 182 :: 0 :: 98 :: t_Mr_and_58
abbrev t_Mr_and_54 : List UInt8 := 28 :: t_Mr_and_55
abbrev t_Mr_and_53 : List UInt8 := 27 :: t_Mr_and_54
abbrev t_Mr_and_51 : List UInt8 := 16 :: 17 :: t_Mr_and_53
abbrev t_Mr_and_50 : List UInt8 := 42 :: t_Mr_and_51
abbrev t_Mr_and_47 : List UInt8 := 167 :: 0 :: 11 :: t_Mr_and_50
abbrev t_Mr_and_46 : List UInt8 := 2 :: t_Mr_and_47
abbrev t_Mr_and_43 : List UInt8 := 156 :: 0 :: 7 :: t_Mr_and_46
abbrev t_Mr_and_42 : List UInt8 := 28 :: t_Mr_and_43
abbrev t_Mr_and_41 : List UInt8 := 61 :: t_Mr_and_42
abbrev t_Mr_and_38 : List UInt8 := 182 :: 0 :: 102 :: t_Mr_and_41
abbrev t_Mr_and_37 : List UInt8 := 42 :: t_Mr_and_38
abbrev t_Mr_and_34 : List UInt8 := 181 :: 0 :: 70 :: t_Mr_and_37
abbrev t_Mr_and_33 : List UInt8 := 96 :: t_Mr_and_34
abbrev t_Mr_and_32 : List UInt8 := 4 :: t_Mr_and_33
abbrev t_Mr_and_29 : List UInt8 := 180 :: 0 :: 70 :: t_Mr_and_32
abbrev t_Mr_and_28 : List UInt8 := 89 :: t_Mr_and_29
abbrev t_Mr_and_27 : List UInt8 := 42 :: t_Mr_and_28
abbrev t_Mr_and_24 : List UInt8 := 153 :: 0 :: 38 :: t_Mr_and_27
abbrev t_Mr_and_21 : List UInt8 := 182 :: 0 :: 94 :: t_Mr_and_24
abbrev t_Mr_and_20 : List UInt8 := 6 :: t_Mr_and_21
abbrev t_Mr_and_19 : List UInt8 := 3 :: t_Mr_and_20
abbrev t_Mr_and_18 : List UInt8 := 3 :: t_Mr_and_19
abbrev t_Mr_and_17 : List UInt8 := 3 :: t_Mr_and_18
abbrev t_Mr_and_16 : List UInt8 := 3 :: t_Mr_and_17
abbrev t_Mr_and_14 : List UInt8 := 16 :: 100 :: t_Mr_and_16
abbrev t_Mr_and_12 : List UInt8 := 16 :: 110 :: t_Mr_and_14
abbrev t_Mr_and_10 : List UInt8 := 16 :: 97 :: t_Mr_and_12
abbrev t_Mr_and_9 : List UInt8 := 42 :: t_Mr_and_10
abbrev t_Mr_and_6 : List UInt8 := 155 :: 0 :: 56 :: t_Mr_and_9
abbrev t_Mr_and_5 : List UInt8 := 27 :: t_Mr_and_6
abbrev t_Mr_and_4 : List UInt8 := 60 :: t_Mr_and_5
abbrev t_Mr_and_1 : List UInt8 := 182 :: 0 :: 102 :: t_Mr_and_4
abbrev t_Mr_and_0 : List UInt8 := 42 :: t_Mr_and_1
theorem a_Mr_and_0 : dk_at b_Mr_and 0 t_Mr_and_0 := dk_start (by decide +kernel)
theorem a_Mr_and_1 : dk_at b_Mr_and 1 t_Mr_and_1 := dk_go 1 a_Mr_and_0 rfl
theorem a_Mr_and_4 : dk_at b_Mr_and 4 t_Mr_and_4 := dk_go 3 a_Mr_and_1 rfl
theorem a_Mr_and_5 : dk_at b_Mr_and 5 t_Mr_and_5 := dk_go 1 a_Mr_and_4 rfl
theorem a_Mr_and_6 : dk_at b_Mr_and 6 t_Mr_and_6 := dk_go 1 a_Mr_and_5 rfl
theorem a_Mr_and_9 : dk_at b_Mr_and 9 t_Mr_and_9 := dk_go 3 a_Mr_and_6 rfl
theorem a_Mr_and_10 : dk_at b_Mr_and 10 t_Mr_and_10 := dk_go 1 a_Mr_and_9 rfl
theorem a_Mr_and_12 : dk_at b_Mr_and 12 t_Mr_and_12 := dk_go 2 a_Mr_and_10 rfl
theorem a_Mr_and_14 : dk_at b_Mr_and 14 t_Mr_and_14 := dk_go 2 a_Mr_and_12 rfl
theorem a_Mr_and_16 : dk_at b_Mr_and 16 t_Mr_and_16 := dk_go 2 a_Mr_and_14 rfl
theorem a_Mr_and_17 : dk_at b_Mr_and 17 t_Mr_and_17 := dk_go 1 a_Mr_and_16 rfl
theorem a_Mr_and_18 : dk_at b_Mr_and 18 t_Mr_and_18 := dk_go 1 a_Mr_and_17 rfl
theorem a_Mr_and_19 : dk_at b_Mr_and 19 t_Mr_and_19 := dk_go 1 a_Mr_and_18 rfl
theorem a_Mr_and_20 : dk_at b_Mr_and 20 t_Mr_and_20 := dk_go 1 a_Mr_and_19 rfl
theorem a_Mr_and_21 : dk_at b_Mr_and 21 t_Mr_and_21 := dk_go 1 a_Mr_and_20 rfl
theorem a_Mr_and_24 : dk_at b_Mr_and 24 t_Mr_and_24 := dk_go 3 a_Mr_and_21 rfl
theorem a_Mr_and_27 : dk_at b_Mr_and 27 t_Mr_and_27 := dk_go 3 a_Mr_and_24 rfl
theorem a_Mr_and_28 : dk_at b_Mr_and 28 t_Mr_and_28 := dk_go 1 a_Mr_and_27 rfl
theorem a_Mr_and_29 : dk_at b_Mr_and 29 t_Mr_and_29 := dk_go 1 a_Mr_and_28 rfl
theorem a_Mr_and_32 : dk_at b_Mr_and 32 t_Mr_and_32 := dk_go 3 a_Mr_and_29 rfl
theorem a_Mr_and_33 : dk_at b_Mr_and 33 t_Mr_and_33 := dk_go 1 a_Mr_and_32 rfl
theorem a_Mr_and_34 : dk_at b_Mr_and 34 t_Mr_and_34 := dk_go 1 a_Mr_and_33 rfl
theorem a_Mr_and_37 : dk_at b_Mr_and 37 t_Mr_and_37 := dk_go 3 a_Mr_and_34 rfl
theorem a_Mr_and_38 : dk_at b_Mr_and 38 t_Mr_and_38 := dk_go 1 a_Mr_and_37 rfl
theorem a_Mr_and_41 : dk_at b_Mr_and 41 t_Mr_and_41 := dk_go 3 a_Mr_and_38 rfl
theorem a_Mr_and_42 : dk_at b_Mr_and 42 t_Mr_and_42 := dk_go 1 a_Mr_and_41 rfl
theorem a_Mr_and_43 : dk_at b_Mr_and 43 t_Mr_and_43 := dk_go 1 a_Mr_and_42 rfl
theorem a_Mr_and_46 : dk_at b_Mr_and 46 t_Mr_and_46 := dk_go 3 a_Mr_and_43 rfl
theorem a_Mr_and_47 : dk_at b_Mr_and 47 t_Mr_and_47 := dk_go 1 a_Mr_and_46 rfl
theorem a_Mr_and_50 : dk_at b_Mr_and 50 t_Mr_and_50 := dk_go 3 a_Mr_and_47 rfl
theorem a_Mr_and_51 : dk_at b_Mr_and 51 t_Mr_and_51 := dk_go 1 a_Mr_and_50 rfl
theorem a_Mr_and_53 : dk_at b_Mr_and 53 t_Mr_and_53 := dk_go 2 a_Mr_and_51 rfl
theorem a_Mr_and_54 : dk_at b_Mr_and 54 t_Mr_and_54 := dk_go 1 a_Mr_and_53 rfl
theorem a_Mr_and_55 : dk_at b_Mr_and 55 t_Mr_and_55 := dk_go 1 a_Mr_and_54 rfl
theorem a_Mr_and_58 : dk_at b_Mr_and 58 t_Mr_and_58 := dk_go 3 a_Mr_and_55 rfl
theorem a_Mr_and_59 : dk_at b_Mr_and 59 t_Mr_and_59 := dk_go 1 a_Mr_and_58 rfl
theorem a_Mr_and_62 : dk_at b_Mr_and 62 t_Mr_and_62 := dk_go 3 a_Mr_and_59 rfl
theorem a_Mr_and_63 : dk_at b_Mr_and 63 t_Mr_and_63 := dk_go 1 a_Mr_and_62 rfl
theorem d_Mr_and_0 : decode b_Mr_and 0 = .ok (.aload_n 0, 1) := dk_0 a_Mr_and_0 (dko_42 _)
theorem d_Mr_and_1 : decode b_Mr_and 1 = .ok (.invokevirtual 102, 3) := dk_U2 a_Mr_and_1 (dko_182 _) rfl
theorem d_Mr_and_4 : decode b_Mr_and 4 = .ok (.istore_n 1, 1) := dk_0 a_Mr_and_4 (dko_60 _)
theorem d_Mr_and_5 : decode b_Mr_and 5 = .ok (.iload_n 1, 1) := dk_0 a_Mr_and_5 (dko_27 _)
theorem d_Mr_and_6 : decode b_Mr_and 6 = .ok (.ifCond .lt 56, 3) := dk_S2 a_Mr_and_6 (dko_155 _) (by decide +kernel)
theorem d_Mr_and_9 : decode b_Mr_and 9 = .ok (.aload_n 0, 1) := dk_0 a_Mr_and_9 (dko_42 _)
theorem d_Mr_and_10 : decode b_Mr_and 10 = .ok (.bipush 97, 2) := dk_S1 a_Mr_and_10 (dko_16 _) (by decide +kernel)
theorem d_Mr_and_12 : decode b_Mr_and 12 = .ok (.bipush 110, 2) := dk_S1 a_Mr_and_12 (dko_16 _) (by decide +kernel)
theorem d_Mr_and_14 : decode b_Mr_and 14 = .ok (.bipush 100, 2) := dk_S1 a_Mr_and_14 (dko_16 _) (by decide +kernel)
theorem d_Mr_and_16 : decode b_Mr_and 16 = .ok (.iconst 0, 1) := dk_0 a_Mr_and_16 (dko_3 _)
theorem d_Mr_and_17 : decode b_Mr_and 17 = .ok (.iconst 0, 1) := dk_0 a_Mr_and_17 (dko_3 _)
theorem d_Mr_and_18 : decode b_Mr_and 18 = .ok (.iconst 0, 1) := dk_0 a_Mr_and_18 (dko_3 _)
theorem d_Mr_and_19 : decode b_Mr_and 19 = .ok (.iconst 0, 1) := dk_0 a_Mr_and_19 (dko_3 _)
theorem d_Mr_and_20 : decode b_Mr_and 20 = .ok (.iconst 3, 1) := dk_0 a_Mr_and_20 (dko_6 _)
theorem d_Mr_and_21 : decode b_Mr_and 21 = .ok (.invokevirtual 94, 3) := dk_U2 a_Mr_and_21 (dko_182 _) rfl
theorem d_Mr_and_24 : decode b_Mr_and 24 = .ok (.ifCond .eq 38, 3) := dk_S2 a_Mr_and_24 (dko_153 _) (by decide +kernel)
theorem d_Mr_and_27 : decode b_Mr_and 27 = .ok (.aload_n 0, 1) := dk_0 a_Mr_and_27 (dko_42 _)
theorem d_Mr_and_28 : decode b_Mr_and 28 = .ok (.dup, 1) := dk_0 a_Mr_and_28 (dko_89 _)
theorem d_Mr_and_29 : decode b_Mr_and 29 = .ok (.getfield 70, 3) := dk_U2 a_Mr_and_29 (dko_180 _) rfl
theorem d_Mr_and_32 : decode b_Mr_and 32 = .ok (.iconst 1, 1) := dk_0 a_Mr_and_32 (dko_4 _)
theorem d_Mr_and_33 : decode b_Mr_and 33 = .ok (.iadd, 1) := dk_0 a_Mr_and_33 (dko_96 _)
theorem d_Mr_and_34 : decode b_Mr_and 34 = .ok (.putfield 70, 3) := dk_U2 a_Mr_and_34 (dko_181 _) rfl
theorem d_Mr_and_37 : decode b_Mr_and 37 = .ok (.aload_n 0, 1) := dk_0 a_Mr_and_37 (dko_42 _)
theorem d_Mr_and_38 : decode b_Mr_and 38 = .ok (.invokevirtual 102, 3) := dk_U2 a_Mr_and_38 (dko_182 _) rfl
theorem d_Mr_and_41 : decode b_Mr_and 41 = .ok (.istore_n 2, 1) := dk_0 a_Mr_and_41 (dko_61 _)
theorem d_Mr_and_42 : decode b_Mr_and 42 = .ok (.iload_n 2, 1) := dk_0 a_Mr_and_42 (dko_28 _)
theorem d_Mr_and_43 : decode b_Mr_and 43 = .ok (.ifCond .ge 7, 3) := dk_S2 a_Mr_and_43 (dko_156 _) (by decide +kernel)
theorem d_Mr_and_46 : decode b_Mr_and 46 = .ok (.iconst (-1), 1) := dk_0 a_Mr_and_46 (dko_2 _)
theorem d_Mr_and_47 : decode b_Mr_and 47 = .ok (.goto 11, 3) := dk_S2 a_Mr_and_47 (dko_167 _) (by decide +kernel)
theorem d_Mr_and_50 : decode b_Mr_and 50 = .ok (.aload_n 0, 1) := dk_0 a_Mr_and_50 (dko_42 _)
theorem d_Mr_and_51 : decode b_Mr_and 51 = .ok (.bipush 17, 2) := dk_S1 a_Mr_and_51 (dko_16 _) (by decide +kernel)
theorem d_Mr_and_53 : decode b_Mr_and 53 = .ok (.iload_n 1, 1) := dk_0 a_Mr_and_53 (dko_27 _)
theorem d_Mr_and_54 : decode b_Mr_and 54 = .ok (.iload_n 2, 1) := dk_0 a_Mr_and_54 (dko_28 _)
theorem d_Mr_and_55 : decode b_Mr_and 55 = .ok (.invokevirtual 98, 3) := dk_U2 a_Mr_and_55 (dko_182 _) rfl
theorem d_Mr_and_58 : decode b_Mr_and 58 = .ok (.istore_n 1, 1) := dk_0 a_Mr_and_58 (dko_60 _)
theorem d_Mr_and_59 : decode b_Mr_and 59 = .ok (.goto (-54), 3) := dk_S2 a_Mr_and_59 (dko_167 _) (by decide +kernel)
theorem d_Mr_and_62 : decode b_Mr_and 62 = .ok (.iload_n 1, 1) := dk_0 a_Mr_and_62 (dko_27 _)
theorem d_Mr_and_63 : decode b_Mr_and 63 = .ok (.ireturn, 1) := dk_0 a_Mr_and_63 (dko_172 _)
set_option maxHeartbeats 4000000 in
set_option maxRecDepth 100000 in
theorem ok_Mr_and (pc : Nat) : OpS mt mi_Mr_and pc (cs_Mr_and pc) := (os_n (os_n (os_n (os_n (os_n (os_l (so_aload_n d_Mr_and_0 rfl)) (os_l (so_callV (iv := mi_Mr_part) rfl rfl rfl mw_2158 mw_2160 sl_106 mw_20 mw_2161 ⟨by decide +kernel, by decide +kernel, by decide +kernel⟩ (by decide) d_Mr_and_1))) (os_n (os_l (so_istore_n d_Mr_and_4 rfl (by decide))) (os_l (so_iload_n d_Mr_and_5 rfl)))) (os_n (os_n (os_l (so_iflt d_Mr_and_6 (by decide))) (os_l (so_aload_n d_Mr_and_9 rfl))) (os_n (os_l (so_bipush d_Mr_and_10 (by decide))) (os_n (os_l (so_bipush d_Mr_and_12 (by decide))) (os_l (so_bipush d_Mr_and_14 (by decide))))))) (os_n (os_n (os_n (os_l (so_iconst d_Mr_and_16 (by decide))) (os_l (so_iconst d_Mr_and_17 (by decide)))) (os_n (os_l (so_iconst d_Mr_and_18 (by decide))) (os_n (os_l (so_iconst d_Mr_and_19 (by decide))) (os_l (so_iconst d_Mr_and_20 (by decide)))))) (os_n (os_n (os_l (so_callV (iv := mi_Mr_is) rfl rfl rfl mw_2126 mw_2128 sl_98 mw_20 mw_2129 ⟨by decide +kernel, by decide +kernel, by decide +kernel⟩ (by decide) d_Mr_and_21)) (os_l (so_ifeq d_Mr_and_24 (by decide)))) (os_n (os_l (so_aload_n d_Mr_and_27 rfl)) (os_n (os_l (so_dup d_Mr_and_28)) (os_l (so_get (C := R_Mr) (T := F_Mr) (N := 25) (j := 5) in_Mr rfl (by decide) mw_1717 d_Mr_and_29))))))) (os_n (os_n (os_n (os_n (os_l (so_iconst d_Mr_and_32 (by decide))) (os_l (so_iadd d_Mr_and_33))) (os_n (os_l (so_putI (C := R_Mr) (T := F_Mr) (N := 25) (j := 5) in_Mr t_Mr_ok n_Mr rfl (by decide) mw_1717 rfl (by decide +kernel) d_Mr_and_34)) (os_l (so_aload_n d_Mr_and_37 rfl)))) (os_n (os_n (os_l (so_callV (iv := mi_Mr_part) rfl rfl rfl mw_2158 mw_2160 sl_106 mw_20 mw_2161 ⟨by decide +kernel, by decide +kernel, by decide +kernel⟩ (by decide) d_Mr_and_38)) (os_l (so_istore_n d_Mr_and_41 rfl (by decide)))) (os_n (os_l (so_iload_n d_Mr_and_42 rfl)) (os_n (os_l (so_ifge d_Mr_and_43 (by decide))) (os_l (so_iconst d_Mr_and_46 (by decide))))))) (os_n (os_n (os_n (os_l (so_goto d_Mr_and_47 (by decide))) (os_l (so_aload_n d_Mr_and_50 rfl))) (os_n (os_l (so_bipush d_Mr_and_51 (by decide))) (os_n (os_l (so_iload_n d_Mr_and_53 rfl)) (os_l (so_iload_n d_Mr_and_54 rfl))))) (os_n (os_n (os_l (so_callV (iv := mi_Mr_node) rfl rfl rfl mw_2166 mw_2168 sl_108 mw_20 mw_2169 ⟨by decide +kernel, by decide +kernel, by decide +kernel⟩ (by decide) d_Mr_and_55)) (os_l (so_istore_n d_Mr_and_58 rfl (by decide)))) (os_n (os_l (so_goto d_Mr_and_59 (by decide))) (os_n (os_l (so_iload_n d_Mr_and_62 rfl)) (os_l (so_ireturn rfl d_Mr_and_63))))))))
abbrev t_Mr_part_187 : List UInt8 := 172 :: []
abbrev t_Mr_part_184 : List UInt8 := 182 :: 0 :: 98 :: t_Mr_part_187
abbrev t_Mr_part_183 : List UInt8 := 2 :: t_Mr_part_184
abbrev t_Mr_part_182 : List UInt8 := 2 :: t_Mr_part_183
abbrev t_Mr_part_181 : List UInt8 := 28 :: t_Mr_part_182
abbrev t_Mr_part_180 : List UInt8 := 42 :: t_Mr_part_181
abbrev t_Mr_part_177 : List UInt8 := 181 :: 0 :: 70 :: t_Mr_part_180
abbrev t_Mr_part_176 : List UInt8 := 96 :: t_Mr_part_177
abbrev t_Mr_part_175 : List UInt8 := 4 :: t_Mr_part_176
abbrev t_Mr_part_172 : List UInt8 := 180 :: 0 :: 70 :: t_Mr_part_175
abbrev t_Mr_part_171 : List UInt8 := 89 :: t_Mr_part_172
abbrev t_Mr_part_170 : List UInt8 := 42 :: t_Mr_part_171
abbrev t_Mr_part_167 : List UInt8 := 181 :: 0 :: 117 :: t_Mr_part_170
abbrev t_Mr_part_166 : List UInt8 := 96 :: t_Mr_part_167
abbrev t_Mr_part_165 : List UInt8 := 4 :: t_Mr_part_166
abbrev t_Mr_part_162 : List UInt8 := 180 :: 0 :: 117 :: t_Mr_part_165
abbrev t_Mr_part_161 : List UInt8 := 89 :: t_Mr_part_162
abbrev t_Mr_part_160 : List UInt8 := 42 :: t_Mr_part_161
abbrev t_Mr_part_159 : List UInt8 := 172 :: t_Mr_part_160
abbrev t_Mr_part_158 : List UInt8 := 2 :: t_Mr_part_159
abbrev t_Mr_part_155 : List UInt8 := 160 :: 0 :: 5 :: t_Mr_part_158
abbrev t_Mr_part_153 : List UInt8 := 16 :: 32 :: t_Mr_part_155
abbrev t_Mr_part_150 : List UInt8 := 180 :: 0 :: 117 :: t_Mr_part_153
abbrev t_Mr_part_149 : List UInt8 := 42 :: t_Mr_part_150
abbrev t_Mr_part_146 : List UInt8 := 155 :: 0 :: 12 :: t_Mr_part_149
abbrev t_Mr_part_145 : List UInt8 := 28 :: t_Mr_part_146
abbrev t_Mr_part_144 : List UInt8 := 61 :: t_Mr_part_145
abbrev t_Mr_part_141 : List UInt8 := 182 :: 0 :: 114 :: t_Mr_part_144
abbrev t_Mr_part_140 : List UInt8 := 42 :: t_Mr_part_141
abbrev t_Mr_part_139 : List UInt8 := 172 :: t_Mr_part_140
abbrev t_Mr_part_138 : List UInt8 := 28 :: t_Mr_part_139
abbrev t_Mr_part_135 : List UInt8 := 167 :: 0 :: 4 :: t_Mr_part_138
abbrev t_Mr_part_132 : List UInt8 := 182 :: 0 :: 98 :: t_Mr_part_135
abbrev t_Mr_part_131 : List UInt8 := 2 :: t_Mr_part_132
abbrev t_Mr_part_130 : List UInt8 := 28 :: t_Mr_part_131
abbrev t_Mr_part_128 : List UInt8 := 16 :: 16 :: t_Mr_part_130
abbrev t_Mr_part_127 : List UInt8 := 42 :: t_Mr_part_128
abbrev t_Mr_part_124 : List UInt8 := 153 :: 0 :: 14 :: t_Mr_part_127
abbrev t_Mr_part_123 : List UInt8 := 27 :: t_Mr_part_124
abbrev t_Mr_part_120 : List UInt8 := 181 :: 0 :: 108 :: t_Mr_part_123
abbrev t_Mr_part_119 : List UInt8 := 100 :: t_Mr_part_120
abbrev t_Mr_part_118 : List UInt8 := 4 :: t_Mr_part_119
abbrev t_Mr_part_115 : List UInt8 := 180 :: 0 :: 108 :: t_Mr_part_118
abbrev t_Mr_part_114 : List UInt8 := 89 :: t_Mr_part_115
abbrev t_Mr_part_113 : List UInt8 := 42 :: t_Mr_part_114
abbrev t_Mr_part_110 : List UInt8 := 181 :: 0 :: 70 :: t_Mr_part_113
abbrev t_Mr_part_109 : List UInt8 := 96 :: t_Mr_part_110
abbrev t_Mr_part_108 : List UInt8 := 4 :: t_Mr_part_109
abbrev t_Mr_part_105 : List UInt8 := 167 :: 0 :: 4 :: t_Mr_part_108
abbrev t_Mr_part_104 : List UInt8 := 3 :: t_Mr_part_105
abbrev t_Mr_part_101 : List UInt8 := 153 :: 0 :: 7 :: t_Mr_part_104
abbrev t_Mr_part_100 : List UInt8 := 27 :: t_Mr_part_101
abbrev t_Mr_part_97 : List UInt8 := 180 :: 0 :: 70 :: t_Mr_part_100
abbrev t_Mr_part_96 : List UInt8 := 89 :: t_Mr_part_97
abbrev t_Mr_part_95 : List UInt8 := 42 :: t_Mr_part_96
abbrev t_Mr_part_94 : List UInt8 := 172 :: t_Mr_part_95
abbrev t_Mr_part_93 : List UInt8 := 2 :: t_Mr_part_94
abbrev t_Mr_part_90 : List UInt8 := 154 :: 0 :: 5 :: t_Mr_part_93
abbrev t_Mr_part_87 : List UInt8 := 182 :: 0 :: 105 :: t_Mr_part_90
abbrev t_Mr_part_85 : List UInt8 := 16 :: 41 :: t_Mr_part_87
abbrev t_Mr_part_84 : List UInt8 := 42 :: t_Mr_part_85
abbrev t_Mr_part_81 : List UInt8 := 154 :: 0 :: 14 :: t_Mr_part_84
abbrev t_Mr_part_80 : List UInt8 := 27 :: t_Mr_part_81
abbrev t_Mr_part_77 : List UInt8 := 155 :: 0 :: 16 :: t_Mr_part_80
abbrev t_Mr_part_76 : List UInt8 := 28 :: t_Mr_part_77
abbrev t_Mr_part_75 : List UInt8 := 61 :: t_Mr_part_76
abbrev t_Mr_part_72 : List UInt8 := 182 :: 0 :: 111 :: t_Mr_part_75
abbrev t_Mr_part_71 : List UInt8 := 42 :: t_Mr_part_72
abbrev t_Mr_part_68 : List UInt8 := 167 :: 0 :: 7 :: t_Mr_part_71
abbrev t_Mr_part_65 : List UInt8 := 182 :: 0 :: 102 :: t_Mr_part_68
abbrev t_Mr_part_64 : List UInt8 := 42 :: t_Mr_part_65
abbrev t_Mr_part_61 : List UInt8 := 153 :: 0 :: 10 :: t_Mr_part_64
abbrev t_Mr_part_60 : List UInt8 := 27 :: t_Mr_part_61
abbrev t_Mr_part_57 : List UInt8 := 181 :: 0 :: 108 :: t_Mr_part_60
abbrev t_Mr_part_56 : List UInt8 := 96 :: t_Mr_part_57
abbrev t_Mr_part_55 : List UInt8 := 4 :: t_Mr_part_56
abbrev t_Mr_part_52 : List UInt8 := 180 :: 0 :: 108 :: t_Mr_part_55
abbrev t_Mr_part_51 : List UInt8 := 89 :: t_Mr_part_52
abbrev t_Mr_part_50 : List UInt8 := 42 :: t_Mr_part_51
abbrev t_Mr_part_47 : List UInt8 := 181 :: 0 :: 70 :: t_Mr_part_50
abbrev t_Mr_part_46 : List UInt8 := 96 :: t_Mr_part_47
abbrev t_Mr_part_45 : List UInt8 := 4 :: t_Mr_part_46
abbrev t_Mr_part_42 : List UInt8 := 180 :: 0 :: 70 :: t_Mr_part_45
abbrev t_Mr_part_41 : List UInt8 := 89 :: t_Mr_part_42
abbrev t_Mr_part_40 : List UInt8 := 42 :: t_Mr_part_41
abbrev t_Mr_part_39 : List UInt8 := 172 :: t_Mr_part_40
abbrev t_Mr_part_38 : List UInt8 := 2 :: t_Mr_part_39
abbrev t_Mr_part_35 : List UInt8 := 160 :: 0 :: 5 :: t_Mr_part_38
abbrev t_Mr_part_33 : List UInt8 := 16 :: 20 :: t_Mr_part_35
abbrev t_Mr_part_30 : List UInt8 := 180 :: 0 :: 108 :: t_Mr_part_33
abbrev t_Mr_part_29 : List UInt8 := 42 :: t_Mr_part_30
abbrev t_Mr_part_26 : List UInt8 := 153 :: 0 :: 114 :: t_Mr_part_29
abbrev t_Mr_part_23 : List UInt8 := 182 :: 0 :: 105 :: t_Mr_part_26
abbrev t_Mr_part_21 : List UInt8 := 16 :: 40 :: t_Mr_part_23
abbrev t_Mr_part_20 : List UInt8 := 42 :: t_Mr_part_21
abbrev t_Mr_part_17 : List UInt8 := 154 :: 0 :: 12 :: t_Mr_part_20
abbrev t_Mr_part_16 : List UInt8 := 27 :: t_Mr_part_17
abbrev t_Mr_part_15 : List UInt8 := 60 :: t_Mr_part_16
abbrev t_Mr_part_12 : List UInt8 := 182 :: 0 :: 94 :: t_Mr_part_15
abbrev t_Mr_part_11 : List UInt8 := 6 :: t_Mr_part_12
abbrev t_Mr_part_10 : List UInt8 := 3 :: t_Mr_part_11
abbrev t_Mr_part_9 : List UInt8 := 3 :: t_Mr_part_10
abbrev t_Mr_part_8 : List UInt8 := 3 :: t_Mr_part_9
abbrev t_Mr_part_7 : List UInt8 := 3 :: t_Mr_part_8
abbrev t_Mr_part_5 : List UInt8 := 16 :: 116 :: t_Mr_part_7
abbrev t_Mr_part_3 : List UInt8 := 16 :: 111 :: t_Mr_part_5
abbrev t_Mr_part_1 : List UInt8 := 16 :: 110 :: t_Mr_part_3
abbrev t_Mr_part_0 : List UInt8 := 42 :: t_Mr_part_1
theorem a_Mr_part_0 : dk_at b_Mr_part 0 t_Mr_part_0 := dk_start (by decide +kernel)
theorem a_Mr_part_1 : dk_at b_Mr_part 1 t_Mr_part_1 := dk_go 1 a_Mr_part_0 rfl
theorem a_Mr_part_3 : dk_at b_Mr_part 3 t_Mr_part_3 := dk_go 2 a_Mr_part_1 rfl
theorem a_Mr_part_5 : dk_at b_Mr_part 5 t_Mr_part_5 := dk_go 2 a_Mr_part_3 rfl
theorem a_Mr_part_7 : dk_at b_Mr_part 7 t_Mr_part_7 := dk_go 2 a_Mr_part_5 rfl
theorem a_Mr_part_8 : dk_at b_Mr_part 8 t_Mr_part_8 := dk_go 1 a_Mr_part_7 rfl
theorem a_Mr_part_9 : dk_at b_Mr_part 9 t_Mr_part_9 := dk_go 1 a_Mr_part_8 rfl
theorem a_Mr_part_10 : dk_at b_Mr_part 10 t_Mr_part_10 := dk_go 1 a_Mr_part_9 rfl
theorem a_Mr_part_11 : dk_at b_Mr_part 11 t_Mr_part_11 := dk_go 1 a_Mr_part_10 rfl
theorem a_Mr_part_12 : dk_at b_Mr_part 12 t_Mr_part_12 := dk_go 1 a_Mr_part_11 rfl
theorem a_Mr_part_15 : dk_at b_Mr_part 15 t_Mr_part_15 := dk_go 3 a_Mr_part_12 rfl
theorem a_Mr_part_16 : dk_at b_Mr_part 16 t_Mr_part_16 := dk_go 1 a_Mr_part_15 rfl
theorem a_Mr_part_17 : dk_at b_Mr_part 17 t_Mr_part_17 := dk_go 1 a_Mr_part_16 rfl
theorem a_Mr_part_20 : dk_at b_Mr_part 20 t_Mr_part_20 := dk_go 3 a_Mr_part_17 rfl
theorem a_Mr_part_21 : dk_at b_Mr_part 21 t_Mr_part_21 := dk_go 1 a_Mr_part_20 rfl
theorem a_Mr_part_23 : dk_at b_Mr_part 23 t_Mr_part_23 := dk_go 2 a_Mr_part_21 rfl
theorem a_Mr_part_26 : dk_at b_Mr_part 26 t_Mr_part_26 := dk_go 3 a_Mr_part_23 rfl
theorem a_Mr_part_29 : dk_at b_Mr_part 29 t_Mr_part_29 := dk_go 3 a_Mr_part_26 rfl
theorem a_Mr_part_30 : dk_at b_Mr_part 30 t_Mr_part_30 := dk_go 1 a_Mr_part_29 rfl
theorem a_Mr_part_33 : dk_at b_Mr_part 33 t_Mr_part_33 := dk_go 3 a_Mr_part_30 rfl
theorem a_Mr_part_35 : dk_at b_Mr_part 35 t_Mr_part_35 := dk_go 2 a_Mr_part_33 rfl
theorem a_Mr_part_38 : dk_at b_Mr_part 38 t_Mr_part_38 := dk_go 3 a_Mr_part_35 rfl
theorem a_Mr_part_39 : dk_at b_Mr_part 39 t_Mr_part_39 := dk_go 1 a_Mr_part_38 rfl
theorem a_Mr_part_40 : dk_at b_Mr_part 40 t_Mr_part_40 := dk_go 1 a_Mr_part_39 rfl
theorem a_Mr_part_41 : dk_at b_Mr_part 41 t_Mr_part_41 := dk_go 1 a_Mr_part_40 rfl
theorem a_Mr_part_42 : dk_at b_Mr_part 42 t_Mr_part_42 := dk_go 1 a_Mr_part_41 rfl
theorem a_Mr_part_45 : dk_at b_Mr_part 45 t_Mr_part_45 := dk_go 3 a_Mr_part_42 rfl
theorem a_Mr_part_46 : dk_at b_Mr_part 46 t_Mr_part_46 := dk_go 1 a_Mr_part_45 rfl
theorem a_Mr_part_47 : dk_at b_Mr_part 47 t_Mr_part_47 := dk_go 1 a_Mr_part_46 rfl
theorem a_Mr_part_50 : dk_at b_Mr_part 50 t_Mr_part_50 := dk_go 3 a_Mr_part_47 rfl
theorem a_Mr_part_51 : dk_at b_Mr_part 51 t_Mr_part_51 := dk_go 1 a_Mr_part_50 rfl
theorem a_Mr_part_52 : dk_at b_Mr_part 52 t_Mr_part_52 := dk_go 1 a_Mr_part_51 rfl
theorem a_Mr_part_55 : dk_at b_Mr_part 55 t_Mr_part_55 := dk_go 3 a_Mr_part_52 rfl
theorem a_Mr_part_56 : dk_at b_Mr_part 56 t_Mr_part_56 := dk_go 1 a_Mr_part_55 rfl
theorem a_Mr_part_57 : dk_at b_Mr_part 57 t_Mr_part_57 := dk_go 1 a_Mr_part_56 rfl
theorem a_Mr_part_60 : dk_at b_Mr_part 60 t_Mr_part_60 := dk_go 3 a_Mr_part_57 rfl
theorem a_Mr_part_61 : dk_at b_Mr_part 61 t_Mr_part_61 := dk_go 1 a_Mr_part_60 rfl
theorem a_Mr_part_64 : dk_at b_Mr_part 64 t_Mr_part_64 := dk_go 3 a_Mr_part_61 rfl
theorem a_Mr_part_65 : dk_at b_Mr_part 65 t_Mr_part_65 := dk_go 1 a_Mr_part_64 rfl
theorem a_Mr_part_68 : dk_at b_Mr_part 68 t_Mr_part_68 := dk_go 3 a_Mr_part_65 rfl
theorem a_Mr_part_71 : dk_at b_Mr_part 71 t_Mr_part_71 := dk_go 3 a_Mr_part_68 rfl
theorem a_Mr_part_72 : dk_at b_Mr_part 72 t_Mr_part_72 := dk_go 1 a_Mr_part_71 rfl
theorem a_Mr_part_75 : dk_at b_Mr_part 75 t_Mr_part_75 := dk_go 3 a_Mr_part_72 rfl
theorem a_Mr_part_76 : dk_at b_Mr_part 76 t_Mr_part_76 := dk_go 1 a_Mr_part_75 rfl
theorem a_Mr_part_77 : dk_at b_Mr_part 77 t_Mr_part_77 := dk_go 1 a_Mr_part_76 rfl
theorem a_Mr_part_80 : dk_at b_Mr_part 80 t_Mr_part_80 := dk_go 3 a_Mr_part_77 rfl
theorem a_Mr_part_81 : dk_at b_Mr_part 81 t_Mr_part_81 := dk_go 1 a_Mr_part_80 rfl
theorem a_Mr_part_84 : dk_at b_Mr_part 84 t_Mr_part_84 := dk_go 3 a_Mr_part_81 rfl
theorem a_Mr_part_85 : dk_at b_Mr_part 85 t_Mr_part_85 := dk_go 1 a_Mr_part_84 rfl
theorem a_Mr_part_87 : dk_at b_Mr_part 87 t_Mr_part_87 := dk_go 2 a_Mr_part_85 rfl
theorem a_Mr_part_90 : dk_at b_Mr_part 90 t_Mr_part_90 := dk_go 3 a_Mr_part_87 rfl
theorem a_Mr_part_93 : dk_at b_Mr_part 93 t_Mr_part_93 := dk_go 3 a_Mr_part_90 rfl
theorem a_Mr_part_94 : dk_at b_Mr_part 94 t_Mr_part_94 := dk_go 1 a_Mr_part_93 rfl
theorem a_Mr_part_95 : dk_at b_Mr_part 95 t_Mr_part_95 := dk_go 1 a_Mr_part_94 rfl
theorem a_Mr_part_96 : dk_at b_Mr_part 96 t_Mr_part_96 := dk_go 1 a_Mr_part_95 rfl
theorem a_Mr_part_97 : dk_at b_Mr_part 97 t_Mr_part_97 := dk_go 1 a_Mr_part_96 rfl
theorem a_Mr_part_100 : dk_at b_Mr_part 100 t_Mr_part_100 := dk_go 3 a_Mr_part_97 rfl
theorem a_Mr_part_101 : dk_at b_Mr_part 101 t_Mr_part_101 := dk_go 1 a_Mr_part_100 rfl
theorem a_Mr_part_104 : dk_at b_Mr_part 104 t_Mr_part_104 := dk_go 3 a_Mr_part_101 rfl
theorem a_Mr_part_105 : dk_at b_Mr_part 105 t_Mr_part_105 := dk_go 1 a_Mr_part_104 rfl
theorem a_Mr_part_108 : dk_at b_Mr_part 108 t_Mr_part_108 := dk_go 3 a_Mr_part_105 rfl
theorem a_Mr_part_109 : dk_at b_Mr_part 109 t_Mr_part_109 := dk_go 1 a_Mr_part_108 rfl
theorem a_Mr_part_110 : dk_at b_Mr_part 110 t_Mr_part_110 := dk_go 1 a_Mr_part_109 rfl
theorem a_Mr_part_113 : dk_at b_Mr_part 113 t_Mr_part_113 := dk_go 3 a_Mr_part_110 rfl
theorem a_Mr_part_114 : dk_at b_Mr_part 114 t_Mr_part_114 := dk_go 1 a_Mr_part_113 rfl
theorem a_Mr_part_115 : dk_at b_Mr_part 115 t_Mr_part_115 := dk_go 1 a_Mr_part_114 rfl
theorem a_Mr_part_118 : dk_at b_Mr_part 118 t_Mr_part_118 := dk_go 3 a_Mr_part_115 rfl
theorem a_Mr_part_119 : dk_at b_Mr_part 119 t_Mr_part_119 := dk_go 1 a_Mr_part_118 rfl
theorem a_Mr_part_120 : dk_at b_Mr_part 120 t_Mr_part_120 := dk_go 1 a_Mr_part_119 rfl
theorem a_Mr_part_123 : dk_at b_Mr_part 123 t_Mr_part_123 := dk_go 3 a_Mr_part_120 rfl
theorem a_Mr_part_124 : dk_at b_Mr_part 124 t_Mr_part_124 := dk_go 1 a_Mr_part_123 rfl
theorem a_Mr_part_127 : dk_at b_Mr_part 127 t_Mr_part_127 := dk_go 3 a_Mr_part_124 rfl
theorem a_Mr_part_128 : dk_at b_Mr_part 128 t_Mr_part_128 := dk_go 1 a_Mr_part_127 rfl
theorem a_Mr_part_130 : dk_at b_Mr_part 130 t_Mr_part_130 := dk_go 2 a_Mr_part_128 rfl
theorem a_Mr_part_131 : dk_at b_Mr_part 131 t_Mr_part_131 := dk_go 1 a_Mr_part_130 rfl
theorem a_Mr_part_132 : dk_at b_Mr_part 132 t_Mr_part_132 := dk_go 1 a_Mr_part_131 rfl
theorem a_Mr_part_135 : dk_at b_Mr_part 135 t_Mr_part_135 := dk_go 3 a_Mr_part_132 rfl
theorem a_Mr_part_138 : dk_at b_Mr_part 138 t_Mr_part_138 := dk_go 3 a_Mr_part_135 rfl
theorem a_Mr_part_139 : dk_at b_Mr_part 139 t_Mr_part_139 := dk_go 1 a_Mr_part_138 rfl
theorem a_Mr_part_140 : dk_at b_Mr_part 140 t_Mr_part_140 := dk_go 1 a_Mr_part_139 rfl
theorem a_Mr_part_141 : dk_at b_Mr_part 141 t_Mr_part_141 := dk_go 1 a_Mr_part_140 rfl
theorem a_Mr_part_144 : dk_at b_Mr_part 144 t_Mr_part_144 := dk_go 3 a_Mr_part_141 rfl
theorem a_Mr_part_145 : dk_at b_Mr_part 145 t_Mr_part_145 := dk_go 1 a_Mr_part_144 rfl
theorem a_Mr_part_146 : dk_at b_Mr_part 146 t_Mr_part_146 := dk_go 1 a_Mr_part_145 rfl
theorem a_Mr_part_149 : dk_at b_Mr_part 149 t_Mr_part_149 := dk_go 3 a_Mr_part_146 rfl
theorem a_Mr_part_150 : dk_at b_Mr_part 150 t_Mr_part_150 := dk_go 1 a_Mr_part_149 rfl
theorem a_Mr_part_153 : dk_at b_Mr_part 153 t_Mr_part_153 := dk_go 3 a_Mr_part_150 rfl
theorem a_Mr_part_155 : dk_at b_Mr_part 155 t_Mr_part_155 := dk_go 2 a_Mr_part_153 rfl
theorem a_Mr_part_158 : dk_at b_Mr_part 158 t_Mr_part_158 := dk_go 3 a_Mr_part_155 rfl
theorem a_Mr_part_159 : dk_at b_Mr_part 159 t_Mr_part_159 := dk_go 1 a_Mr_part_158 rfl
theorem a_Mr_part_160 : dk_at b_Mr_part 160 t_Mr_part_160 := dk_go 1 a_Mr_part_159 rfl
theorem a_Mr_part_161 : dk_at b_Mr_part 161 t_Mr_part_161 := dk_go 1 a_Mr_part_160 rfl
theorem a_Mr_part_162 : dk_at b_Mr_part 162 t_Mr_part_162 := dk_go 1 a_Mr_part_161 rfl
theorem a_Mr_part_165 : dk_at b_Mr_part 165 t_Mr_part_165 := dk_go 3 a_Mr_part_162 rfl
theorem a_Mr_part_166 : dk_at b_Mr_part 166 t_Mr_part_166 := dk_go 1 a_Mr_part_165 rfl
theorem a_Mr_part_167 : dk_at b_Mr_part 167 t_Mr_part_167 := dk_go 1 a_Mr_part_166 rfl
theorem a_Mr_part_170 : dk_at b_Mr_part 170 t_Mr_part_170 := dk_go 3 a_Mr_part_167 rfl
theorem a_Mr_part_171 : dk_at b_Mr_part 171 t_Mr_part_171 := dk_go 1 a_Mr_part_170 rfl
theorem a_Mr_part_172 : dk_at b_Mr_part 172 t_Mr_part_172 := dk_go 1 a_Mr_part_171 rfl
theorem a_Mr_part_175 : dk_at b_Mr_part 175 t_Mr_part_175 := dk_go 3 a_Mr_part_172 rfl
theorem a_Mr_part_176 : dk_at b_Mr_part 176 t_Mr_part_176 := dk_go 1 a_Mr_part_175 rfl
theorem a_Mr_part_177 : dk_at b_Mr_part 177 t_Mr_part_177 := dk_go 1 a_Mr_part_176 rfl
theorem a_Mr_part_180 : dk_at b_Mr_part 180 t_Mr_part_180 := dk_go 3 a_Mr_part_177 rfl
theorem a_Mr_part_181 : dk_at b_Mr_part 181 t_Mr_part_181 := dk_go 1 a_Mr_part_180 rfl
theorem a_Mr_part_182 : dk_at b_Mr_part 182 t_Mr_part_182 := dk_go 1 a_Mr_part_181 rfl
theorem a_Mr_part_183 : dk_at b_Mr_part 183 t_Mr_part_183 := dk_go 1 a_Mr_part_182 rfl
theorem a_Mr_part_184 : dk_at b_Mr_part 184 t_Mr_part_184 := dk_go 1 a_Mr_part_183 rfl
theorem a_Mr_part_187 : dk_at b_Mr_part 187 t_Mr_part_187 := dk_go 3 a_Mr_part_184 rfl
theorem d_Mr_part_0 : decode b_Mr_part 0 = .ok (.aload_n 0, 1) := dk_0 a_Mr_part_0 (dko_42 _)
theorem d_Mr_part_1 : decode b_Mr_part 1 = .ok (.bipush 110, 2) := dk_S1 a_Mr_part_1 (dko_16 _) (by decide +kernel)
theorem d_Mr_part_3 : decode b_Mr_part 3 = .ok (.bipush 111, 2) := dk_S1 a_Mr_part_3 (dko_16 _) (by decide +kernel)
theorem d_Mr_part_5 : decode b_Mr_part 5 = .ok (.bipush 116, 2) := dk_S1 a_Mr_part_5 (dko_16 _) (by decide +kernel)
theorem d_Mr_part_7 : decode b_Mr_part 7 = .ok (.iconst 0, 1) := dk_0 a_Mr_part_7 (dko_3 _)
theorem d_Mr_part_8 : decode b_Mr_part 8 = .ok (.iconst 0, 1) := dk_0 a_Mr_part_8 (dko_3 _)
theorem d_Mr_part_9 : decode b_Mr_part 9 = .ok (.iconst 0, 1) := dk_0 a_Mr_part_9 (dko_3 _)
theorem d_Mr_part_10 : decode b_Mr_part 10 = .ok (.iconst 0, 1) := dk_0 a_Mr_part_10 (dko_3 _)
theorem d_Mr_part_11 : decode b_Mr_part 11 = .ok (.iconst 3, 1) := dk_0 a_Mr_part_11 (dko_6 _)
theorem d_Mr_part_12 : decode b_Mr_part 12 = .ok (.invokevirtual 94, 3) := dk_U2 a_Mr_part_12 (dko_182 _) rfl
theorem d_Mr_part_15 : decode b_Mr_part 15 = .ok (.istore_n 1, 1) := dk_0 a_Mr_part_15 (dko_60 _)
theorem d_Mr_part_16 : decode b_Mr_part 16 = .ok (.iload_n 1, 1) := dk_0 a_Mr_part_16 (dko_27 _)
theorem d_Mr_part_17 : decode b_Mr_part 17 = .ok (.ifCond .ne 12, 3) := dk_S2 a_Mr_part_17 (dko_154 _) (by decide +kernel)
theorem d_Mr_part_20 : decode b_Mr_part 20 = .ok (.aload_n 0, 1) := dk_0 a_Mr_part_20 (dko_42 _)
theorem d_Mr_part_21 : decode b_Mr_part 21 = .ok (.bipush 40, 2) := dk_S1 a_Mr_part_21 (dko_16 _) (by decide +kernel)
theorem d_Mr_part_23 : decode b_Mr_part 23 = .ok (.invokevirtual 105, 3) := dk_U2 a_Mr_part_23 (dko_182 _) rfl
theorem d_Mr_part_26 : decode b_Mr_part 26 = .ok (.ifCond .eq 114, 3) := dk_S2 a_Mr_part_26 (dko_153 _) (by decide +kernel)
theorem d_Mr_part_29 : decode b_Mr_part 29 = .ok (.aload_n 0, 1) := dk_0 a_Mr_part_29 (dko_42 _)
theorem d_Mr_part_30 : decode b_Mr_part 30 = .ok (.getfield 108, 3) := dk_U2 a_Mr_part_30 (dko_180 _) rfl
theorem d_Mr_part_33 : decode b_Mr_part 33 = .ok (.bipush 20, 2) := dk_S1 a_Mr_part_33 (dko_16 _) (by decide +kernel)
theorem d_Mr_part_35 : decode b_Mr_part 35 = .ok (.if_icmp .ne 5, 3) := dk_S2 a_Mr_part_35 (dko_160 _) (by decide +kernel)
theorem d_Mr_part_38 : decode b_Mr_part 38 = .ok (.iconst (-1), 1) := dk_0 a_Mr_part_38 (dko_2 _)
theorem d_Mr_part_39 : decode b_Mr_part 39 = .ok (.ireturn, 1) := dk_0 a_Mr_part_39 (dko_172 _)
theorem d_Mr_part_40 : decode b_Mr_part 40 = .ok (.aload_n 0, 1) := dk_0 a_Mr_part_40 (dko_42 _)
theorem d_Mr_part_41 : decode b_Mr_part 41 = .ok (.dup, 1) := dk_0 a_Mr_part_41 (dko_89 _)
theorem d_Mr_part_42 : decode b_Mr_part 42 = .ok (.getfield 70, 3) := dk_U2 a_Mr_part_42 (dko_180 _) rfl
theorem d_Mr_part_45 : decode b_Mr_part 45 = .ok (.iconst 1, 1) := dk_0 a_Mr_part_45 (dko_4 _)
theorem d_Mr_part_46 : decode b_Mr_part 46 = .ok (.iadd, 1) := dk_0 a_Mr_part_46 (dko_96 _)
theorem d_Mr_part_47 : decode b_Mr_part 47 = .ok (.putfield 70, 3) := dk_U2 a_Mr_part_47 (dko_181 _) rfl
theorem d_Mr_part_50 : decode b_Mr_part 50 = .ok (.aload_n 0, 1) := dk_0 a_Mr_part_50 (dko_42 _)
theorem d_Mr_part_51 : decode b_Mr_part 51 = .ok (.dup, 1) := dk_0 a_Mr_part_51 (dko_89 _)
theorem d_Mr_part_52 : decode b_Mr_part 52 = .ok (.getfield 108, 3) := dk_U2 a_Mr_part_52 (dko_180 _) rfl
theorem d_Mr_part_55 : decode b_Mr_part 55 = .ok (.iconst 1, 1) := dk_0 a_Mr_part_55 (dko_4 _)
theorem d_Mr_part_56 : decode b_Mr_part 56 = .ok (.iadd, 1) := dk_0 a_Mr_part_56 (dko_96 _)
theorem d_Mr_part_57 : decode b_Mr_part 57 = .ok (.putfield 108, 3) := dk_U2 a_Mr_part_57 (dko_181 _) rfl
theorem d_Mr_part_60 : decode b_Mr_part 60 = .ok (.iload_n 1, 1) := dk_0 a_Mr_part_60 (dko_27 _)
theorem d_Mr_part_61 : decode b_Mr_part 61 = .ok (.ifCond .eq 10, 3) := dk_S2 a_Mr_part_61 (dko_153 _) (by decide +kernel)
theorem d_Mr_part_64 : decode b_Mr_part 64 = .ok (.aload_n 0, 1) := dk_0 a_Mr_part_64 (dko_42 _)
theorem d_Mr_part_65 : decode b_Mr_part 65 = .ok (.invokevirtual 102, 3) := dk_U2 a_Mr_part_65 (dko_182 _) rfl
theorem d_Mr_part_68 : decode b_Mr_part 68 = .ok (.goto 7, 3) := dk_S2 a_Mr_part_68 (dko_167 _) (by decide +kernel)
theorem d_Mr_part_71 : decode b_Mr_part 71 = .ok (.aload_n 0, 1) := dk_0 a_Mr_part_71 (dko_42 _)
theorem d_Mr_part_72 : decode b_Mr_part 72 = .ok (.invokevirtual 111, 3) := dk_U2 a_Mr_part_72 (dko_182 _) rfl
theorem d_Mr_part_75 : decode b_Mr_part 75 = .ok (.istore_n 2, 1) := dk_0 a_Mr_part_75 (dko_61 _)
theorem d_Mr_part_76 : decode b_Mr_part 76 = .ok (.iload_n 2, 1) := dk_0 a_Mr_part_76 (dko_28 _)
theorem d_Mr_part_77 : decode b_Mr_part 77 = .ok (.ifCond .lt 16, 3) := dk_S2 a_Mr_part_77 (dko_155 _) (by decide +kernel)
theorem d_Mr_part_80 : decode b_Mr_part 80 = .ok (.iload_n 1, 1) := dk_0 a_Mr_part_80 (dko_27 _)
theorem d_Mr_part_81 : decode b_Mr_part 81 = .ok (.ifCond .ne 14, 3) := dk_S2 a_Mr_part_81 (dko_154 _) (by decide +kernel)
theorem d_Mr_part_84 : decode b_Mr_part 84 = .ok (.aload_n 0, 1) := dk_0 a_Mr_part_84 (dko_42 _)
theorem d_Mr_part_85 : decode b_Mr_part 85 = .ok (.bipush 41, 2) := dk_S1 a_Mr_part_85 (dko_16 _) (by decide +kernel)
theorem d_Mr_part_87 : decode b_Mr_part 87 = .ok (.invokevirtual 105, 3) := dk_U2 a_Mr_part_87 (dko_182 _) rfl
theorem d_Mr_part_90 : decode b_Mr_part 90 = .ok (.ifCond .ne 5, 3) := dk_S2 a_Mr_part_90 (dko_154 _) (by decide +kernel)
theorem d_Mr_part_93 : decode b_Mr_part 93 = .ok (.iconst (-1), 1) := dk_0 a_Mr_part_93 (dko_2 _)
theorem d_Mr_part_94 : decode b_Mr_part 94 = .ok (.ireturn, 1) := dk_0 a_Mr_part_94 (dko_172 _)
theorem d_Mr_part_95 : decode b_Mr_part 95 = .ok (.aload_n 0, 1) := dk_0 a_Mr_part_95 (dko_42 _)
theorem d_Mr_part_96 : decode b_Mr_part 96 = .ok (.dup, 1) := dk_0 a_Mr_part_96 (dko_89 _)
theorem d_Mr_part_97 : decode b_Mr_part 97 = .ok (.getfield 70, 3) := dk_U2 a_Mr_part_97 (dko_180 _) rfl
theorem d_Mr_part_100 : decode b_Mr_part 100 = .ok (.iload_n 1, 1) := dk_0 a_Mr_part_100 (dko_27 _)
theorem d_Mr_part_101 : decode b_Mr_part 101 = .ok (.ifCond .eq 7, 3) := dk_S2 a_Mr_part_101 (dko_153 _) (by decide +kernel)
theorem d_Mr_part_104 : decode b_Mr_part 104 = .ok (.iconst 0, 1) := dk_0 a_Mr_part_104 (dko_3 _)
theorem d_Mr_part_105 : decode b_Mr_part 105 = .ok (.goto 4, 3) := dk_S2 a_Mr_part_105 (dko_167 _) (by decide +kernel)
theorem d_Mr_part_108 : decode b_Mr_part 108 = .ok (.iconst 1, 1) := dk_0 a_Mr_part_108 (dko_4 _)
theorem d_Mr_part_109 : decode b_Mr_part 109 = .ok (.iadd, 1) := dk_0 a_Mr_part_109 (dko_96 _)
theorem d_Mr_part_110 : decode b_Mr_part 110 = .ok (.putfield 70, 3) := dk_U2 a_Mr_part_110 (dko_181 _) rfl
theorem d_Mr_part_113 : decode b_Mr_part 113 = .ok (.aload_n 0, 1) := dk_0 a_Mr_part_113 (dko_42 _)
theorem d_Mr_part_114 : decode b_Mr_part 114 = .ok (.dup, 1) := dk_0 a_Mr_part_114 (dko_89 _)
theorem d_Mr_part_115 : decode b_Mr_part 115 = .ok (.getfield 108, 3) := dk_U2 a_Mr_part_115 (dko_180 _) rfl
theorem d_Mr_part_118 : decode b_Mr_part 118 = .ok (.iconst 1, 1) := dk_0 a_Mr_part_118 (dko_4 _)
theorem d_Mr_part_119 : decode b_Mr_part 119 = .ok (.isub, 1) := dk_0 a_Mr_part_119 (dko_100 _)
theorem d_Mr_part_120 : decode b_Mr_part 120 = .ok (.putfield 108, 3) := dk_U2 a_Mr_part_120 (dko_181 _) rfl
theorem d_Mr_part_123 : decode b_Mr_part 123 = .ok (.iload_n 1, 1) := dk_0 a_Mr_part_123 (dko_27 _)
theorem d_Mr_part_124 : decode b_Mr_part 124 = .ok (.ifCond .eq 14, 3) := dk_S2 a_Mr_part_124 (dko_153 _) (by decide +kernel)
theorem d_Mr_part_127 : decode b_Mr_part 127 = .ok (.aload_n 0, 1) := dk_0 a_Mr_part_127 (dko_42 _)
theorem d_Mr_part_128 : decode b_Mr_part 128 = .ok (.bipush 16, 2) := dk_S1 a_Mr_part_128 (dko_16 _) (by decide +kernel)
theorem d_Mr_part_130 : decode b_Mr_part 130 = .ok (.iload_n 2, 1) := dk_0 a_Mr_part_130 (dko_28 _)
theorem d_Mr_part_131 : decode b_Mr_part 131 = .ok (.iconst (-1), 1) := dk_0 a_Mr_part_131 (dko_2 _)
theorem d_Mr_part_132 : decode b_Mr_part 132 = .ok (.invokevirtual 98, 3) := dk_U2 a_Mr_part_132 (dko_182 _) rfl
theorem d_Mr_part_135 : decode b_Mr_part 135 = .ok (.goto 4, 3) := dk_S2 a_Mr_part_135 (dko_167 _) (by decide +kernel)
theorem d_Mr_part_138 : decode b_Mr_part 138 = .ok (.iload_n 2, 1) := dk_0 a_Mr_part_138 (dko_28 _)
theorem d_Mr_part_139 : decode b_Mr_part 139 = .ok (.ireturn, 1) := dk_0 a_Mr_part_139 (dko_172 _)
theorem d_Mr_part_140 : decode b_Mr_part 140 = .ok (.aload_n 0, 1) := dk_0 a_Mr_part_140 (dko_42 _)
theorem d_Mr_part_141 : decode b_Mr_part 141 = .ok (.invokevirtual 114, 3) := dk_U2 a_Mr_part_141 (dko_182 _) rfl
theorem d_Mr_part_144 : decode b_Mr_part 144 = .ok (.istore_n 2, 1) := dk_0 a_Mr_part_144 (dko_61 _)
theorem d_Mr_part_145 : decode b_Mr_part 145 = .ok (.iload_n 2, 1) := dk_0 a_Mr_part_145 (dko_28 _)
theorem d_Mr_part_146 : decode b_Mr_part 146 = .ok (.ifCond .lt 12, 3) := dk_S2 a_Mr_part_146 (dko_155 _) (by decide +kernel)
theorem d_Mr_part_149 : decode b_Mr_part 149 = .ok (.aload_n 0, 1) := dk_0 a_Mr_part_149 (dko_42 _)
theorem d_Mr_part_150 : decode b_Mr_part 150 = .ok (.getfield 117, 3) := dk_U2 a_Mr_part_150 (dko_180 _) rfl
theorem d_Mr_part_153 : decode b_Mr_part 153 = .ok (.bipush 32, 2) := dk_S1 a_Mr_part_153 (dko_16 _) (by decide +kernel)
theorem d_Mr_part_155 : decode b_Mr_part 155 = .ok (.if_icmp .ne 5, 3) := dk_S2 a_Mr_part_155 (dko_160 _) (by decide +kernel)
theorem d_Mr_part_158 : decode b_Mr_part 158 = .ok (.iconst (-1), 1) := dk_0 a_Mr_part_158 (dko_2 _)
theorem d_Mr_part_159 : decode b_Mr_part 159 = .ok (.ireturn, 1) := dk_0 a_Mr_part_159 (dko_172 _)
theorem d_Mr_part_160 : decode b_Mr_part 160 = .ok (.aload_n 0, 1) := dk_0 a_Mr_part_160 (dko_42 _)
theorem d_Mr_part_161 : decode b_Mr_part 161 = .ok (.dup, 1) := dk_0 a_Mr_part_161 (dko_89 _)
theorem d_Mr_part_162 : decode b_Mr_part 162 = .ok (.getfield 117, 3) := dk_U2 a_Mr_part_162 (dko_180 _) rfl
theorem d_Mr_part_165 : decode b_Mr_part 165 = .ok (.iconst 1, 1) := dk_0 a_Mr_part_165 (dko_4 _)
theorem d_Mr_part_166 : decode b_Mr_part 166 = .ok (.iadd, 1) := dk_0 a_Mr_part_166 (dko_96 _)
theorem d_Mr_part_167 : decode b_Mr_part 167 = .ok (.putfield 117, 3) := dk_U2 a_Mr_part_167 (dko_181 _) rfl
theorem d_Mr_part_170 : decode b_Mr_part 170 = .ok (.aload_n 0, 1) := dk_0 a_Mr_part_170 (dko_42 _)
theorem d_Mr_part_171 : decode b_Mr_part 171 = .ok (.dup, 1) := dk_0 a_Mr_part_171 (dko_89 _)
theorem d_Mr_part_172 : decode b_Mr_part 172 = .ok (.getfield 70, 3) := dk_U2 a_Mr_part_172 (dko_180 _) rfl
theorem d_Mr_part_175 : decode b_Mr_part 175 = .ok (.iconst 1, 1) := dk_0 a_Mr_part_175 (dko_4 _)
theorem d_Mr_part_176 : decode b_Mr_part 176 = .ok (.iadd, 1) := dk_0 a_Mr_part_176 (dko_96 _)
theorem d_Mr_part_177 : decode b_Mr_part 177 = .ok (.putfield 70, 3) := dk_U2 a_Mr_part_177 (dko_181 _) rfl
theorem d_Mr_part_180 : decode b_Mr_part 180 = .ok (.aload_n 0, 1) := dk_0 a_Mr_part_180 (dko_42 _)
theorem d_Mr_part_181 : decode b_Mr_part 181 = .ok (.iload_n 2, 1) := dk_0 a_Mr_part_181 (dko_28 _)
theorem d_Mr_part_182 : decode b_Mr_part 182 = .ok (.iconst (-1), 1) := dk_0 a_Mr_part_182 (dko_2 _)
theorem d_Mr_part_183 : decode b_Mr_part 183 = .ok (.iconst (-1), 1) := dk_0 a_Mr_part_183 (dko_2 _)
theorem d_Mr_part_184 : decode b_Mr_part 184 = .ok (.invokevirtual 98, 3) := dk_U2 a_Mr_part_184 (dko_182 _) rfl
theorem d_Mr_part_187 : decode b_Mr_part 187 = .ok (.ireturn, 1) := dk_0 a_Mr_part_187 (dko_172 _)
set_option maxHeartbeats 4000000 in
set_option maxRecDepth 100000 in
theorem ok_Mr_part (pc : Nat) : OpS mt mi_Mr_part pc (cs_Mr_part pc) := (os_n (os_n (os_n (os_n (os_n (os_n (os_l (so_aload_n d_Mr_part_0 rfl)) (os_n (os_l (so_bipush d_Mr_part_1 (by decide))) (os_l (so_bipush d_Mr_part_3 (by decide))))) (os_n (os_l (so_bipush d_Mr_part_5 (by decide))) (os_n (os_l (so_iconst d_Mr_part_7 (by decide))) (os_l (so_iconst d_Mr_part_8 (by decide)))))) (os_n (os_n (os_l (so_iconst d_Mr_part_9 (by decide))) (os_n (os_l (so_iconst d_Mr_part_10 (by decide))) (os_l (so_iconst d_Mr_part_11 (by decide))))) (os_n (os_n (os_l (so_callV (iv := mi_Mr_is) rfl rfl rfl mw_2126 mw_2128 sl_98 mw_20 mw_2129 ⟨by decide +kernel, by decide +kernel, by decide +kernel⟩ (by decide) d_Mr_part_12)) (os_l (so_istore_n d_Mr_part_15 rfl (by decide)))) (os_n (os_l (so_iload_n d_Mr_part_16 rfl)) (os_l (so_ifne d_Mr_part_17 (by decide))))))) (os_n (os_n (os_n (os_l (so_aload_n d_Mr_part_20 rfl)) (os_n (os_l (so_bipush d_Mr_part_21 (by decide))) (os_l (so_callV (iv := mi_Mr_isOne) rfl rfl rfl mw_2162 mw_2164 sl_107 mw_20 mw_2165 ⟨by decide +kernel, by decide +kernel, by decide +kernel⟩ (by decide) d_Mr_part_23)))) (os_n (os_n (os_l (so_ifeq d_Mr_part_26 (by decide))) (os_l (so_aload_n d_Mr_part_29 rfl))) (os_n (os_l (so_get (C := R_Mr) (T := F_Mr) (N := 25) (j := 6) in_Mr rfl (by decide) mw_1718 d_Mr_part_30)) (os_l (so_bipush d_Mr_part_33 (by decide)))))) (os_n (os_n (os_l (so_icne d_Mr_part_35 (by decide))) (os_n (os_l (so_iconst d_Mr_part_38 (by decide))) (os_l (so_ireturn rfl d_Mr_part_39)))) (os_n (os_n (os_l (so_aload_n d_Mr_part_40 rfl)) (os_l (so_dup d_Mr_part_41))) (os_n (os_l (so_get (C := R_Mr) (T := F_Mr) (N := 25) (j := 5) in_Mr rfl (by decide) mw_1717 d_Mr_part_42)) (os_l (so_iconst d_Mr_part_45 (by decide)))))))) (os_n (os_n (os_n (os_n (os_l (so_iadd d_Mr_part_46)) (os_n (os_l (so_putI (C := R_Mr) (T := F_Mr) (N := 25) (j := 5) in_Mr t_Mr_ok n_Mr rfl (by decide) mw_1717 rfl (by decide +kernel) d_Mr_part_47)) (os_l (so_aload_n d_Mr_part_50 rfl)))) (os_n (os_l (so_dup d_Mr_part_51)) (os_n (os_l (so_get (C := R_Mr) (T := F_Mr) (N := 25) (j := 6) in_Mr rfl (by decide) mw_1718 d_Mr_part_52)) (os_l (so_iconst d_Mr_part_55 (by decide)))))) (os_n (os_n (os_l (so_iadd d_Mr_part_56)) (os_n (os_l (so_putI (C := R_Mr) (T := F_Mr) (N := 25) (j := 6) in_Mr t_Mr_ok n_Mr rfl (by decide) mw_1718 rfl (by decide +kernel) d_Mr_part_57)) (os_l (so_iload_n d_Mr_part_60 rfl)))) (os_n (os_n (os_l (so_ifeq d_Mr_part_61 (by decide))) (os_l (so_aload_n d_Mr_part_64 rfl))) (os_n (os_l (so_callV (iv := mi_Mr_part) rfl rfl rfl mw_2158 mw_2160 sl_106 mw_20 mw_2161 ⟨by decide +kernel, by decide +kernel, by decide +kernel⟩ (by decide) d_Mr_part_65)) (os_l (so_goto d_Mr_part_68 (by decide))))))) (os_n (os_n (os_n (os_l (so_aload_n d_Mr_part_71 rfl)) (os_n (os_l (so_callV (iv := mi_Mr_or) rfl rfl rfl mw_2150 mw_2152 sl_104 mw_20 mw_2153 ⟨by decide +kernel, by decide +kernel, by decide +kernel⟩ (by decide) d_Mr_part_72)) (os_l (so_istore_n d_Mr_part_75 rfl (by decide))))) (os_n (os_n (os_l (so_iload_n d_Mr_part_76 rfl)) (os_l (so_iflt d_Mr_part_77 (by decide)))) (os_n (os_l (so_iload_n d_Mr_part_80 rfl)) (os_l (so_ifne d_Mr_part_81 (by decide)))))) (os_n (os_n (os_l (so_aload_n d_Mr_part_84 rfl)) (os_n (os_l (so_bipush d_Mr_part_85 (by decide))) (os_l (so_callV (iv := mi_Mr_isOne) rfl rfl rfl mw_2162 mw_2164 sl_107 mw_20 mw_2165 ⟨by decide +kernel, by decide +kernel, by decide +kernel⟩ (by decide) d_Mr_part_87)))) (os_n (os_n (os_l (so_ifne d_Mr_part_90 (by decide))) (os_l (so_iconst d_Mr_part_93 (by decide)))) (os_n (os_l (so_ireturn rfl d_Mr_part_94)) (os_l (so_aload_n d_Mr_part_95 rfl)))))))) (os_n (os_n (os_n (os_n (os_n (os_l (so_dup d_Mr_part_96)) (os_n (os_l (so_get (C := R_Mr) (T := F_Mr) (N := 25) (j := 5) in_Mr rfl (by decide) mw_1717 d_Mr_part_97)) (os_l (so_iload_n d_Mr_part_100 rfl)))) (os_n (os_l (so_ifeq d_Mr_part_101 (by decide))) (os_n (os_l (so_iconst d_Mr_part_104 (by decide))) (os_l (so_goto d_Mr_part_105 (by decide)))))) (os_n (os_n (os_l (so_iconst d_Mr_part_108 (by decide))) (os_n (os_l (so_iadd d_Mr_part_109)) (os_l (so_putI (C := R_Mr) (T := F_Mr) (N := 25) (j := 5) in_Mr t_Mr_ok n_Mr rfl (by decide) mw_1717 rfl (by decide +kernel) d_Mr_part_110)))) (os_n (os_n (os_l (so_aload_n d_Mr_part_113 rfl)) (os_l (so_dup d_Mr_part_114))) (os_n (os_l (so_get (C := R_Mr) (T := F_Mr) (N := 25) (j := 6) in_Mr rfl (by decide) mw_1718 d_Mr_part_115)) (os_l (so_iconst d_Mr_part_118 (by decide))))))) (os_n (os_n (os_n (os_l (so_isub d_Mr_part_119)) (os_n (os_l (so_putI (C := R_Mr) (T := F_Mr) (N := 25) (j := 6) in_Mr t_Mr_ok n_Mr rfl (by decide) mw_1718 rfl (by decide +kernel) d_Mr_part_120)) (os_l (so_iload_n d_Mr_part_123 rfl)))) (os_n (os_n (os_l (so_ifeq d_Mr_part_124 (by decide))) (os_l (so_aload_n d_Mr_part_127 rfl))) (os_n (os_l (so_bipush d_Mr_part_128 (by decide))) (os_l (so_iload_n d_Mr_part_130 rfl))))) (os_n (os_n (os_l (so_iconst d_Mr_part_131 (by decide))) (os_n (os_l (so_callV (iv := mi_Mr_node) rfl rfl rfl mw_2166 mw_2168 sl_108 mw_20 mw_2169 ⟨by decide +kernel, by decide +kernel, by decide +kernel⟩ (by decide) d_Mr_part_132)) (os_l (so_goto d_Mr_part_135 (by decide))))) (os_n (os_n (os_l (so_iload_n d_Mr_part_138 rfl)) (os_l (so_ireturn rfl d_Mr_part_139))) (os_n (os_l (so_aload_n d_Mr_part_140 rfl)) (os_l (so_callV (iv := mi_Mr_conditionWord) rfl rfl rfl mw_2170 mw_2172 sl_109 mw_20 mw_2173 ⟨by decide +kernel, by decide +kernel, by decide +kernel⟩ (by decide) d_Mr_part_141))))))) (os_n (os_n (os_n (os_n (os_l (so_istore_n d_Mr_part_144 rfl (by decide))) (os_n (os_l (so_iload_n d_Mr_part_145 rfl)) (os_l (so_iflt d_Mr_part_146 (by decide))))) (os_n (os_l (so_aload_n d_Mr_part_149 rfl)) (os_n (os_l (so_get (C := R_Mr) (T := F_Mr) (N := 25) (j := 7) in_Mr rfl (by decide) mw_1719 d_Mr_part_150)) (os_l (so_bipush d_Mr_part_153 (by decide)))))) (os_n (os_n (os_l (so_icne d_Mr_part_155 (by decide))) (os_n (os_l (so_iconst d_Mr_part_158 (by decide))) (os_l (so_ireturn rfl d_Mr_part_159)))) (os_n (os_n (os_l (so_aload_n d_Mr_part_160 rfl)) (os_l (so_dup d_Mr_part_161))) (os_n (os_l (so_get (C := R_Mr) (T := F_Mr) (N := 25) (j := 7) in_Mr rfl (by decide) mw_1719 d_Mr_part_162)) (os_l (so_iconst d_Mr_part_165 (by decide))))))) (os_n (os_n (os_n (os_l (so_iadd d_Mr_part_166)) (os_n (os_l (so_putI (C := R_Mr) (T := F_Mr) (N := 25) (j := 7) in_Mr t_Mr_ok n_Mr rfl (by decide) mw_1719 rfl (by decide +kernel) d_Mr_part_167)) (os_l (so_aload_n d_Mr_part_170 rfl)))) (os_n (os_n (os_l (so_dup d_Mr_part_171)) (os_l (so_get (C := R_Mr) (T := F_Mr) (N := 25) (j := 5) in_Mr rfl (by decide) mw_1717 d_Mr_part_172))) (os_n (os_l (so_iconst d_Mr_part_175 (by decide))) (os_l (so_iadd d_Mr_part_176))))) (os_n (os_n (os_l (so_putI (C := R_Mr) (T := F_Mr) (N := 25) (j := 5) in_Mr t_Mr_ok n_Mr rfl (by decide) mw_1717 rfl (by decide +kernel) d_Mr_part_177)) (os_n (os_l (so_aload_n d_Mr_part_180 rfl)) (os_l (so_iload_n d_Mr_part_181 rfl)))) (os_n (os_n (os_l (so_iconst d_Mr_part_182 (by decide))) (os_l (so_iconst d_Mr_part_183 (by decide)))) (os_n (os_l (so_callV (iv := mi_Mr_node) rfl rfl rfl mw_2166 mw_2168 sl_108 mw_20 mw_2169 ⟨by decide +kernel, by decide +kernel, by decide +kernel⟩ (by decide) d_Mr_part_184)) (os_l (so_ireturn rfl d_Mr_part_187)))))))))
abbrev t_Mr_readRow_358 : List UInt8 := 172 :: []
abbrev t_Mr_readRow_357 : List UInt8 := 4 :: t_Mr_readRow_358
abbrev t_Mr_readRow_354 : List UInt8 := 181 :: 0 :: 120 :: t_Mr_readRow_357
abbrev t_Mr_readRow_353 : List UInt8 := 96 :: t_Mr_readRow_354
abbrev t_Mr_readRow_352 : List UInt8 := 4 :: t_Mr_readRow_353
abbrev t_Mr_readRow_349 : List UInt8 := 180 :: 0 :: 120 :: t_Mr_readRow_352
abbrev t_Mr_readRow_348 : List UInt8 := 89 :: t_Mr_readRow_349
abbrev t_Mr_readRow_347 : List UInt8 := 42 :: t_Mr_readRow_348
abbrev t_Mr_readRow_344 : List UInt8 := 181 :: 0 :: 70 :: t_Mr_readRow_347
abbrev t_Mr_readRow_343 : List UInt8 := 96 :: t_Mr_readRow_344
abbrev t_Mr_readRow_342 : List UInt8 := 4 :: t_Mr_readRow_343
abbrev t_Mr_readRow_339 : List UInt8 := 180 :: 0 :: 70 :: t_Mr_readRow_342
abbrev t_Mr_readRow_338 : List UInt8 := 89 :: t_Mr_readRow_339
abbrev t_Mr_readRow_337 : List UInt8 := 42 :: t_Mr_readRow_338
abbrev t_Mr_readRow_336 : List UInt8 := 172 :: t_Mr_readRow_337
abbrev t_Mr_readRow_335 : List UInt8 := 3 :: t_Mr_readRow_336
abbrev t_Mr_readRow_332 : List UInt8 := 154 :: 0 :: 5 :: t_Mr_readRow_335
abbrev t_Mr_readRow_329 : List UInt8 := 182 :: 0 :: 105 :: t_Mr_readRow_332
abbrev t_Mr_readRow_327 : List UInt8 := 16 :: 59 :: t_Mr_readRow_329
abbrev t_Mr_readRow_326 : List UInt8 := 42 :: t_Mr_readRow_327
abbrev t_Mr_readRow_323 : List UInt8 := 181 :: 0 :: 70 :: t_Mr_readRow_326
abbrev t_Mr_readRow_322 : List UInt8 := 96 :: t_Mr_readRow_323
abbrev t_Mr_readRow_321 : List UInt8 := 3 :: t_Mr_readRow_322
abbrev t_Mr_readRow_318 : List UInt8 := 167 :: 0 :: 4 :: t_Mr_readRow_321
abbrev t_Mr_readRow_317 : List UInt8 := 4 :: t_Mr_readRow_318
abbrev t_Mr_readRow_314 : List UInt8 := 153 :: 0 :: 7 :: t_Mr_readRow_317
abbrev t_Mr_readRow_313 : List UInt8 := 51 :: t_Mr_readRow_314
abbrev t_Mr_readRow_312 : List UInt8 := 27 :: t_Mr_readRow_313
abbrev t_Mr_readRow_309 : List UInt8 := 180 :: 0 :: 43 :: t_Mr_readRow_312
abbrev t_Mr_readRow_308 : List UInt8 := 42 :: t_Mr_readRow_309
abbrev t_Mr_readRow_305 : List UInt8 := 180 :: 0 :: 70 :: t_Mr_readRow_308
abbrev t_Mr_readRow_304 : List UInt8 := 89 :: t_Mr_readRow_305
abbrev t_Mr_readRow_303 : List UInt8 := 42 :: t_Mr_readRow_304
abbrev t_Mr_readRow_302 : List UInt8 := 84 :: t_Mr_readRow_303
abbrev t_Mr_readRow_299 : List UInt8 := 182 :: 0 :: 94 :: t_Mr_readRow_302
abbrev t_Mr_readRow_297 : List UInt8 := 16 :: 7 :: t_Mr_readRow_299
abbrev t_Mr_readRow_295 : List UInt8 := 16 :: 100 :: t_Mr_readRow_297
abbrev t_Mr_readRow_293 : List UInt8 := 16 :: 101 :: t_Mr_readRow_295
abbrev t_Mr_readRow_291 : List UInt8 := 16 :: 104 :: t_Mr_readRow_293
abbrev t_Mr_readRow_289 : List UInt8 := 16 :: 99 :: t_Mr_readRow_291
abbrev t_Mr_readRow_287 : List UInt8 := 16 :: 116 :: t_Mr_readRow_289
abbrev t_Mr_readRow_285 : List UInt8 := 16 :: 97 :: t_Mr_readRow_287
abbrev t_Mr_readRow_283 : List UInt8 := 16 :: 108 :: t_Mr_readRow_285
abbrev t_Mr_readRow_282 : List UInt8 := 42 :: t_Mr_readRow_283
abbrev t_Mr_readRow_281 : List UInt8 := 27 :: t_Mr_readRow_282
abbrev t_Mr_readRow_278 : List UInt8 := 180 :: 0 :: 43 :: t_Mr_readRow_281
abbrev t_Mr_readRow_277 : List UInt8 := 42 :: t_Mr_readRow_278
abbrev t_Mr_readRow_274 : List UInt8 := 181 :: 0 :: 70 :: t_Mr_readRow_277
abbrev t_Mr_readRow_273 : List UInt8 := 96 :: t_Mr_readRow_274
abbrev t_Mr_readRow_272 : List UInt8 := 4 :: t_Mr_readRow_273
abbrev t_Mr_readRow_269 : List UInt8 := 180 :: 0 :: 70 :: t_Mr_readRow_272
abbrev t_Mr_readRow_268 : List UInt8 := 89 :: t_Mr_readRow_269
abbrev t_Mr_readRow_267 : List UInt8 := 42 :: t_Mr_readRow_268
abbrev t_Mr_readRow_266 : List UInt8 := 79 :: t_Mr_readRow_267
abbrev t_Mr_readRow_264 : List UInt8 := 21 :: 4 :: t_Mr_readRow_266
abbrev t_Mr_readRow_263 : List UInt8 := 27 :: t_Mr_readRow_264
abbrev t_Mr_readRow_260 : List UInt8 := 180 :: 0 :: 40 :: t_Mr_readRow_263
abbrev t_Mr_readRow_259 : List UInt8 := 42 :: t_Mr_readRow_260
abbrev t_Mr_readRow_258 : List UInt8 := 172 :: t_Mr_readRow_259
abbrev t_Mr_readRow_257 : List UInt8 := 3 :: t_Mr_readRow_258
abbrev t_Mr_readRow_254 : List UInt8 := 156 :: 0 :: 5 :: t_Mr_readRow_257
abbrev t_Mr_readRow_252 : List UInt8 := 21 :: 4 :: t_Mr_readRow_254
abbrev t_Mr_readRow_250 : List UInt8 := 54 :: 4 :: t_Mr_readRow_252
abbrev t_Mr_readRow_247 : List UInt8 := 182 :: 0 :: 81 :: t_Mr_readRow_250
abbrev t_Mr_readRow_244 : List UInt8 := 17 :: 14 :: 16 :: t_Mr_readRow_247
abbrev t_Mr_readRow_243 : List UInt8 := 3 :: t_Mr_readRow_244
abbrev t_Mr_readRow_242 : List UInt8 := 42 :: t_Mr_readRow_243
abbrev t_Mr_readRow_239 : List UInt8 := 181 :: 0 :: 70 :: t_Mr_readRow_242
abbrev t_Mr_readRow_238 : List UInt8 := 96 :: t_Mr_readRow_239
abbrev t_Mr_readRow_237 : List UInt8 := 4 :: t_Mr_readRow_238
abbrev t_Mr_readRow_234 : List UInt8 := 180 :: 0 :: 70 :: t_Mr_readRow_237
abbrev t_Mr_readRow_233 : List UInt8 := 89 :: t_Mr_readRow_234
abbrev t_Mr_readRow_232 : List UInt8 := 42 :: t_Mr_readRow_233
abbrev t_Mr_readRow_229 : List UInt8 := 153 :: 0 :: 48 :: t_Mr_readRow_232
abbrev t_Mr_readRow_226 : List UInt8 := 182 :: 0 :: 94 :: t_Mr_readRow_229
abbrev t_Mr_readRow_225 : List UInt8 := 6 :: t_Mr_readRow_226
abbrev t_Mr_readRow_224 : List UInt8 := 3 :: t_Mr_readRow_225
abbrev t_Mr_readRow_223 : List UInt8 := 3 :: t_Mr_readRow_224
abbrev t_Mr_readRow_222 : List UInt8 := 3 :: t_Mr_readRow_223
abbrev t_Mr_readRow_221 : List UInt8 := 3 :: t_Mr_readRow_222
abbrev t_Mr_readRow_219 : List UInt8 := 16 :: 114 :: t_Mr_readRow_221
abbrev t_Mr_readRow_217 : List UInt8 := 16 :: 111 :: t_Mr_readRow_219
abbrev t_Mr_readRow_215 : List UInt8 := 16 :: 102 :: t_Mr_readRow_217
abbrev t_Mr_readRow_214 : List UInt8 := 42 :: t_Mr_readRow_215
abbrev t_Mr_readRow_213 : List UInt8 := 79 :: t_Mr_readRow_214
abbrev t_Mr_readRow_212 : List UInt8 := 3 :: t_Mr_readRow_213
abbrev t_Mr_readRow_211 : List UInt8 := 27 :: t_Mr_readRow_212
abbrev t_Mr_readRow_208 : List UInt8 := 180 :: 0 :: 40 :: t_Mr_readRow_211
abbrev t_Mr_readRow_207 : List UInt8 := 42 :: t_Mr_readRow_208
abbrev t_Mr_readRow_206 : List UInt8 := 79 :: t_Mr_readRow_207
abbrev t_Mr_readRow_203 : List UInt8 := 180 :: 0 :: 117 :: t_Mr_readRow_206
abbrev t_Mr_readRow_202 : List UInt8 := 42 :: t_Mr_readRow_203
abbrev t_Mr_readRow_201 : List UInt8 := 27 :: t_Mr_readRow_202
abbrev t_Mr_readRow_198 : List UInt8 := 180 :: 0 :: 47 :: t_Mr_readRow_201
abbrev t_Mr_readRow_197 : List UInt8 := 42 :: t_Mr_readRow_198
abbrev t_Mr_readRow_196 : List UInt8 := 172 :: t_Mr_readRow_197
abbrev t_Mr_readRow_195 : List UInt8 := 3 :: t_Mr_readRow_196
abbrev t_Mr_readRow_192 : List UInt8 := 156 :: 0 :: 5 :: t_Mr_readRow_195
abbrev t_Mr_readRow_191 : List UInt8 := 46 :: t_Mr_readRow_192
abbrev t_Mr_readRow_190 : List UInt8 := 27 :: t_Mr_readRow_191
abbrev t_Mr_readRow_187 : List UInt8 := 180 :: 0 :: 31 :: t_Mr_readRow_190
abbrev t_Mr_readRow_186 : List UInt8 := 42 :: t_Mr_readRow_187
abbrev t_Mr_readRow_185 : List UInt8 := 79 :: t_Mr_readRow_186
abbrev t_Mr_readRow_182 : List UInt8 := 182 :: 0 :: 111 :: t_Mr_readRow_185
abbrev t_Mr_readRow_181 : List UInt8 := 42 :: t_Mr_readRow_182
abbrev t_Mr_readRow_180 : List UInt8 := 27 :: t_Mr_readRow_181
abbrev t_Mr_readRow_177 : List UInt8 := 180 :: 0 :: 31 :: t_Mr_readRow_180
abbrev t_Mr_readRow_176 : List UInt8 := 42 :: t_Mr_readRow_177
abbrev t_Mr_readRow_173 : List UInt8 := 181 :: 0 :: 117 :: t_Mr_readRow_176
abbrev t_Mr_readRow_172 : List UInt8 := 3 :: t_Mr_readRow_173
abbrev t_Mr_readRow_171 : List UInt8 := 42 :: t_Mr_readRow_172
abbrev t_Mr_readRow_168 : List UInt8 := 181 :: 0 :: 108 :: t_Mr_readRow_171
abbrev t_Mr_readRow_167 : List UInt8 := 3 :: t_Mr_readRow_168
abbrev t_Mr_readRow_166 : List UInt8 := 42 :: t_Mr_readRow_167
abbrev t_Mr_readRow_163 : List UInt8 := 181 :: 0 :: 70 :: t_Mr_readRow_166
abbrev t_Mr_readRow_162 : List UInt8 := 96 :: t_Mr_readRow_163
abbrev t_Mr_readRow_161 : List UInt8 := 4 :: t_Mr_readRow_162
abbrev t_Mr_readRow_158 : List UInt8 := 180 :: 0 :: 70 :: t_Mr_readRow_161
abbrev t_Mr_readRow_157 : List UInt8 := 89 :: t_Mr_readRow_158
abbrev t_Mr_readRow_156 : List UInt8 := 42 :: t_Mr_readRow_157
abbrev t_Mr_readRow_155 : List UInt8 := 79 :: t_Mr_readRow_156
abbrev t_Mr_readRow_154 : List UInt8 := 28 :: t_Mr_readRow_155
abbrev t_Mr_readRow_153 : List UInt8 := 27 :: t_Mr_readRow_154
abbrev t_Mr_readRow_150 : List UInt8 := 180 :: 0 :: 34 :: t_Mr_readRow_153
abbrev t_Mr_readRow_149 : List UInt8 := 42 :: t_Mr_readRow_150
abbrev t_Mr_readRow_148 : List UInt8 := 172 :: t_Mr_readRow_149
abbrev t_Mr_readRow_147 : List UInt8 := 3 :: t_Mr_readRow_148
abbrev t_Mr_readRow_144 : List UInt8 := 154 :: 0 :: 5 :: t_Mr_readRow_147
abbrev t_Mr_readRow_141 : List UInt8 := 182 :: 0 :: 94 :: t_Mr_readRow_144
abbrev t_Mr_readRow_140 : List UInt8 := 7 :: t_Mr_readRow_141
abbrev t_Mr_readRow_139 : List UInt8 := 3 :: t_Mr_readRow_140
abbrev t_Mr_readRow_138 : List UInt8 := 3 :: t_Mr_readRow_139
abbrev t_Mr_readRow_137 : List UInt8 := 3 :: t_Mr_readRow_138
abbrev t_Mr_readRow_135 : List UInt8 := 16 :: 110 :: t_Mr_readRow_137
abbrev t_Mr_readRow_133 : List UInt8 := 16 :: 101 :: t_Mr_readRow_135
abbrev t_Mr_readRow_131 : List UInt8 := 16 :: 104 :: t_Mr_readRow_133
abbrev t_Mr_readRow_129 : List UInt8 := 16 :: 119 :: t_Mr_readRow_131
abbrev t_Mr_readRow_128 : List UInt8 := 42 :: t_Mr_readRow_129
abbrev t_Mr_readRow_125 : List UInt8 := 153 :: 0 :: 22 :: t_Mr_readRow_128
abbrev t_Mr_readRow_124 : List UInt8 := 28 :: t_Mr_readRow_125
abbrev t_Mr_readRow_121 : List UInt8 := 167 :: 255 :: 164 :: t_Mr_readRow_124
abbrev t_Mr_readRow_118 : List UInt8 := 181 :: 0 :: 70 :: t_Mr_readRow_121
abbrev t_Mr_readRow_117 : List UInt8 := 96 :: t_Mr_readRow_118
abbrev t_Mr_readRow_116 : List UInt8 := 4 :: t_Mr_readRow_117
abbrev t_Mr_readRow_113 : List UInt8 := 180 :: 0 :: 70 :: t_Mr_readRow_116
abbrev t_Mr_readRow_112 : List UInt8 := 89 :: t_Mr_readRow_113
abbrev t_Mr_readRow_111 : List UInt8 := 42 :: t_Mr_readRow_112
abbrev t_Mr_readRow_108 : List UInt8 := 132 :: 2 :: 1 :: t_Mr_readRow_111
abbrev t_Mr_readRow_107 : List UInt8 := 79 :: t_Mr_readRow_108
abbrev t_Mr_readRow_105 : List UInt8 := 21 :: 4 :: t_Mr_readRow_107
abbrev t_Mr_readRow_104 : List UInt8 := 96 :: t_Mr_readRow_105
abbrev t_Mr_readRow_103 : List UInt8 := 28 :: t_Mr_readRow_104
abbrev t_Mr_readRow_102 : List UInt8 := 104 :: t_Mr_readRow_103
abbrev t_Mr_readRow_101 : List UInt8 := 27 :: t_Mr_readRow_102
abbrev t_Mr_readRow_99 : List UInt8 := 16 :: 8 :: t_Mr_readRow_101
abbrev t_Mr_readRow_96 : List UInt8 := 180 :: 0 :: 37 :: t_Mr_readRow_99
abbrev t_Mr_readRow_95 : List UInt8 := 42 :: t_Mr_readRow_96
abbrev t_Mr_readRow_92 : List UInt8 := 167 :: 0 :: 29 :: t_Mr_readRow_95
abbrev t_Mr_readRow_91 : List UInt8 := 62 :: t_Mr_readRow_92
abbrev t_Mr_readRow_90 : List UInt8 := 3 :: t_Mr_readRow_91
abbrev t_Mr_readRow_87 : List UInt8 := 160 :: 0 :: 8 :: t_Mr_readRow_90
abbrev t_Mr_readRow_85 : List UInt8 := 16 :: 8 :: t_Mr_readRow_87
abbrev t_Mr_readRow_84 : List UInt8 := 28 :: t_Mr_readRow_85
abbrev t_Mr_readRow_81 : List UInt8 := 155 :: 0 :: 9 :: t_Mr_readRow_84
abbrev t_Mr_readRow_79 : List UInt8 := 21 :: 4 :: t_Mr_readRow_81
abbrev t_Mr_readRow_76 : List UInt8 := 167 :: 255 :: 222 :: t_Mr_readRow_79
abbrev t_Mr_readRow_73 : List UInt8 := 132 :: 5 :: 1 :: t_Mr_readRow_76
abbrev t_Mr_readRow_71 : List UInt8 := 54 :: 4 :: t_Mr_readRow_73
abbrev t_Mr_readRow_69 : List UInt8 := 21 :: 4 :: t_Mr_readRow_71
abbrev t_Mr_readRow_66 : List UInt8 := 167 :: 0 :: 5 :: t_Mr_readRow_69
abbrev t_Mr_readRow_65 : List UInt8 := 2 :: t_Mr_readRow_66
abbrev t_Mr_readRow_62 : List UInt8 := 160 :: 0 :: 7 :: t_Mr_readRow_65
abbrev t_Mr_readRow_60 : List UInt8 := 21 :: 4 :: t_Mr_readRow_62
abbrev t_Mr_readRow_59 : List UInt8 := 46 :: t_Mr_readRow_60
abbrev t_Mr_readRow_58 : List UInt8 := 96 :: t_Mr_readRow_59
abbrev t_Mr_readRow_56 : List UInt8 := 21 :: 5 :: t_Mr_readRow_58
abbrev t_Mr_readRow_55 : List UInt8 := 104 :: t_Mr_readRow_56
abbrev t_Mr_readRow_54 : List UInt8 := 27 :: t_Mr_readRow_55
abbrev t_Mr_readRow_52 : List UInt8 := 16 :: 8 :: t_Mr_readRow_54
abbrev t_Mr_readRow_49 : List UInt8 := 180 :: 0 :: 37 :: t_Mr_readRow_52
abbrev t_Mr_readRow_48 : List UInt8 := 42 :: t_Mr_readRow_49
abbrev t_Mr_readRow_45 : List UInt8 := 162 :: 0 :: 34 :: t_Mr_readRow_48
abbrev t_Mr_readRow_44 : List UInt8 := 28 :: t_Mr_readRow_45
abbrev t_Mr_readRow_42 : List UInt8 := 21 :: 5 :: t_Mr_readRow_44
abbrev t_Mr_readRow_40 : List UInt8 := 54 :: 5 :: t_Mr_readRow_42
abbrev t_Mr_readRow_39 : List UInt8 := 3 :: t_Mr_readRow_40
abbrev t_Mr_readRow_37 : List UInt8 := 54 :: 4 :: t_Mr_readRow_39
abbrev t_Mr_readRow_34 : List UInt8 := 182 :: 0 :: 123 :: t_Mr_readRow_37
abbrev t_Mr_readRow_33 : List UInt8 := 42 :: t_Mr_readRow_34
abbrev t_Mr_readRow_30 : List UInt8 := 153 :: 0 :: 94 :: t_Mr_readRow_33
abbrev t_Mr_readRow_29 : List UInt8 := 29 :: t_Mr_readRow_30
abbrev t_Mr_readRow_28 : List UInt8 := 62 :: t_Mr_readRow_29
abbrev t_Mr_readRow_27 : List UInt8 := 4 :: t_Mr_readRow_28
abbrev t_Mr_readRow_26 : List UInt8 := 61 :: t_Mr_readRow_27
abbrev t_Mr_readRow_25 : List UInt8 := 3 :: t_Mr_readRow_26
abbrev t_Mr_readRow_22 : List UInt8 := 181 :: 0 :: 70 :: t_Mr_readRow_25
abbrev t_Mr_readRow_21 : List UInt8 := 96 :: t_Mr_readRow_22
abbrev t_Mr_readRow_20 : List UInt8 := 4 :: t_Mr_readRow_21
abbrev t_Mr_readRow_17 : List UInt8 := 180 :: 0 :: 70 :: t_Mr_readRow_20
abbrev t_Mr_readRow_16 : List UInt8 := 89 :: t_Mr_readRow_17
abbrev t_Mr_readRow_15 : List UInt8 := 42 :: t_Mr_readRow_16
abbrev t_Mr_readRow_14 : List UInt8 := 60 :: t_Mr_readRow_15
abbrev t_Mr_readRow_13 : List UInt8 := 96 :: t_Mr_readRow_14
abbrev t_Mr_readRow_10 : List UInt8 := 180 :: 0 :: 120 :: t_Mr_readRow_13
abbrev t_Mr_readRow_9 : List UInt8 := 42 :: t_Mr_readRow_10
abbrev t_Mr_readRow_8 : List UInt8 := 104 :: t_Mr_readRow_9
abbrev t_Mr_readRow_7 : List UInt8 := 100 :: t_Mr_readRow_8
abbrev t_Mr_readRow_4 : List UInt8 := 180 :: 0 :: 85 :: t_Mr_readRow_7
abbrev t_Mr_readRow_3 : List UInt8 := 42 :: t_Mr_readRow_4
abbrev t_Mr_readRow_2 : List UInt8 := 4 :: t_Mr_readRow_3
abbrev t_Mr_readRow_0 : List UInt8 := 16 :: 40 :: t_Mr_readRow_2
theorem a_Mr_readRow_0 : dk_at b_Mr_readRow 0 t_Mr_readRow_0 := dk_start (by decide +kernel)
theorem a_Mr_readRow_2 : dk_at b_Mr_readRow 2 t_Mr_readRow_2 := dk_go 2 a_Mr_readRow_0 rfl
theorem a_Mr_readRow_3 : dk_at b_Mr_readRow 3 t_Mr_readRow_3 := dk_go 1 a_Mr_readRow_2 rfl
theorem a_Mr_readRow_4 : dk_at b_Mr_readRow 4 t_Mr_readRow_4 := dk_go 1 a_Mr_readRow_3 rfl
theorem a_Mr_readRow_7 : dk_at b_Mr_readRow 7 t_Mr_readRow_7 := dk_go 3 a_Mr_readRow_4 rfl
theorem a_Mr_readRow_8 : dk_at b_Mr_readRow 8 t_Mr_readRow_8 := dk_go 1 a_Mr_readRow_7 rfl
theorem a_Mr_readRow_9 : dk_at b_Mr_readRow 9 t_Mr_readRow_9 := dk_go 1 a_Mr_readRow_8 rfl
theorem a_Mr_readRow_10 : dk_at b_Mr_readRow 10 t_Mr_readRow_10 := dk_go 1 a_Mr_readRow_9 rfl
theorem a_Mr_readRow_13 : dk_at b_Mr_readRow 13 t_Mr_readRow_13 := dk_go 3 a_Mr_readRow_10 rfl
theorem a_Mr_readRow_14 : dk_at b_Mr_readRow 14 t_Mr_readRow_14 := dk_go 1 a_Mr_readRow_13 rfl
theorem a_Mr_readRow_15 : dk_at b_Mr_readRow 15 t_Mr_readRow_15 := dk_go 1 a_Mr_readRow_14 rfl
theorem a_Mr_readRow_16 : dk_at b_Mr_readRow 16 t_Mr_readRow_16 := dk_go 1 a_Mr_readRow_15 rfl
theorem a_Mr_readRow_17 : dk_at b_Mr_readRow 17 t_Mr_readRow_17 := dk_go 1 a_Mr_readRow_16 rfl
theorem a_Mr_readRow_20 : dk_at b_Mr_readRow 20 t_Mr_readRow_20 := dk_go 3 a_Mr_readRow_17 rfl
theorem a_Mr_readRow_21 : dk_at b_Mr_readRow 21 t_Mr_readRow_21 := dk_go 1 a_Mr_readRow_20 rfl
theorem a_Mr_readRow_22 : dk_at b_Mr_readRow 22 t_Mr_readRow_22 := dk_go 1 a_Mr_readRow_21 rfl
theorem a_Mr_readRow_25 : dk_at b_Mr_readRow 25 t_Mr_readRow_25 := dk_go 3 a_Mr_readRow_22 rfl
theorem a_Mr_readRow_26 : dk_at b_Mr_readRow 26 t_Mr_readRow_26 := dk_go 1 a_Mr_readRow_25 rfl
theorem a_Mr_readRow_27 : dk_at b_Mr_readRow 27 t_Mr_readRow_27 := dk_go 1 a_Mr_readRow_26 rfl
theorem a_Mr_readRow_28 : dk_at b_Mr_readRow 28 t_Mr_readRow_28 := dk_go 1 a_Mr_readRow_27 rfl
theorem a_Mr_readRow_29 : dk_at b_Mr_readRow 29 t_Mr_readRow_29 := dk_go 1 a_Mr_readRow_28 rfl
theorem a_Mr_readRow_30 : dk_at b_Mr_readRow 30 t_Mr_readRow_30 := dk_go 1 a_Mr_readRow_29 rfl
theorem a_Mr_readRow_33 : dk_at b_Mr_readRow 33 t_Mr_readRow_33 := dk_go 3 a_Mr_readRow_30 rfl
theorem a_Mr_readRow_34 : dk_at b_Mr_readRow 34 t_Mr_readRow_34 := dk_go 1 a_Mr_readRow_33 rfl
theorem a_Mr_readRow_37 : dk_at b_Mr_readRow 37 t_Mr_readRow_37 := dk_go 3 a_Mr_readRow_34 rfl
theorem a_Mr_readRow_39 : dk_at b_Mr_readRow 39 t_Mr_readRow_39 := dk_go 2 a_Mr_readRow_37 rfl
theorem a_Mr_readRow_40 : dk_at b_Mr_readRow 40 t_Mr_readRow_40 := dk_go 1 a_Mr_readRow_39 rfl
theorem a_Mr_readRow_42 : dk_at b_Mr_readRow 42 t_Mr_readRow_42 := dk_go 2 a_Mr_readRow_40 rfl
theorem a_Mr_readRow_44 : dk_at b_Mr_readRow 44 t_Mr_readRow_44 := dk_go 2 a_Mr_readRow_42 rfl
theorem a_Mr_readRow_45 : dk_at b_Mr_readRow 45 t_Mr_readRow_45 := dk_go 1 a_Mr_readRow_44 rfl
theorem a_Mr_readRow_48 : dk_at b_Mr_readRow 48 t_Mr_readRow_48 := dk_go 3 a_Mr_readRow_45 rfl
theorem a_Mr_readRow_49 : dk_at b_Mr_readRow 49 t_Mr_readRow_49 := dk_go 1 a_Mr_readRow_48 rfl
theorem a_Mr_readRow_52 : dk_at b_Mr_readRow 52 t_Mr_readRow_52 := dk_go 3 a_Mr_readRow_49 rfl
theorem a_Mr_readRow_54 : dk_at b_Mr_readRow 54 t_Mr_readRow_54 := dk_go 2 a_Mr_readRow_52 rfl
theorem a_Mr_readRow_55 : dk_at b_Mr_readRow 55 t_Mr_readRow_55 := dk_go 1 a_Mr_readRow_54 rfl
theorem a_Mr_readRow_56 : dk_at b_Mr_readRow 56 t_Mr_readRow_56 := dk_go 1 a_Mr_readRow_55 rfl
theorem a_Mr_readRow_58 : dk_at b_Mr_readRow 58 t_Mr_readRow_58 := dk_go 2 a_Mr_readRow_56 rfl
theorem a_Mr_readRow_59 : dk_at b_Mr_readRow 59 t_Mr_readRow_59 := dk_go 1 a_Mr_readRow_58 rfl
theorem a_Mr_readRow_60 : dk_at b_Mr_readRow 60 t_Mr_readRow_60 := dk_go 1 a_Mr_readRow_59 rfl
theorem a_Mr_readRow_62 : dk_at b_Mr_readRow 62 t_Mr_readRow_62 := dk_go 2 a_Mr_readRow_60 rfl
theorem a_Mr_readRow_65 : dk_at b_Mr_readRow 65 t_Mr_readRow_65 := dk_go 3 a_Mr_readRow_62 rfl
theorem a_Mr_readRow_66 : dk_at b_Mr_readRow 66 t_Mr_readRow_66 := dk_go 1 a_Mr_readRow_65 rfl
theorem a_Mr_readRow_69 : dk_at b_Mr_readRow 69 t_Mr_readRow_69 := dk_go 3 a_Mr_readRow_66 rfl
theorem a_Mr_readRow_71 : dk_at b_Mr_readRow 71 t_Mr_readRow_71 := dk_go 2 a_Mr_readRow_69 rfl
theorem a_Mr_readRow_73 : dk_at b_Mr_readRow 73 t_Mr_readRow_73 := dk_go 2 a_Mr_readRow_71 rfl
theorem a_Mr_readRow_76 : dk_at b_Mr_readRow 76 t_Mr_readRow_76 := dk_go 3 a_Mr_readRow_73 rfl
theorem a_Mr_readRow_79 : dk_at b_Mr_readRow 79 t_Mr_readRow_79 := dk_go 3 a_Mr_readRow_76 rfl
theorem a_Mr_readRow_81 : dk_at b_Mr_readRow 81 t_Mr_readRow_81 := dk_go 2 a_Mr_readRow_79 rfl
theorem a_Mr_readRow_84 : dk_at b_Mr_readRow 84 t_Mr_readRow_84 := dk_go 3 a_Mr_readRow_81 rfl
theorem a_Mr_readRow_85 : dk_at b_Mr_readRow 85 t_Mr_readRow_85 := dk_go 1 a_Mr_readRow_84 rfl
theorem a_Mr_readRow_87 : dk_at b_Mr_readRow 87 t_Mr_readRow_87 := dk_go 2 a_Mr_readRow_85 rfl
theorem a_Mr_readRow_90 : dk_at b_Mr_readRow 90 t_Mr_readRow_90 := dk_go 3 a_Mr_readRow_87 rfl
theorem a_Mr_readRow_91 : dk_at b_Mr_readRow 91 t_Mr_readRow_91 := dk_go 1 a_Mr_readRow_90 rfl
theorem a_Mr_readRow_92 : dk_at b_Mr_readRow 92 t_Mr_readRow_92 := dk_go 1 a_Mr_readRow_91 rfl
theorem a_Mr_readRow_95 : dk_at b_Mr_readRow 95 t_Mr_readRow_95 := dk_go 3 a_Mr_readRow_92 rfl
theorem a_Mr_readRow_96 : dk_at b_Mr_readRow 96 t_Mr_readRow_96 := dk_go 1 a_Mr_readRow_95 rfl
theorem a_Mr_readRow_99 : dk_at b_Mr_readRow 99 t_Mr_readRow_99 := dk_go 3 a_Mr_readRow_96 rfl
theorem a_Mr_readRow_101 : dk_at b_Mr_readRow 101 t_Mr_readRow_101 := dk_go 2 a_Mr_readRow_99 rfl
theorem a_Mr_readRow_102 : dk_at b_Mr_readRow 102 t_Mr_readRow_102 := dk_go 1 a_Mr_readRow_101 rfl
theorem a_Mr_readRow_103 : dk_at b_Mr_readRow 103 t_Mr_readRow_103 := dk_go 1 a_Mr_readRow_102 rfl
theorem a_Mr_readRow_104 : dk_at b_Mr_readRow 104 t_Mr_readRow_104 := dk_go 1 a_Mr_readRow_103 rfl
theorem a_Mr_readRow_105 : dk_at b_Mr_readRow 105 t_Mr_readRow_105 := dk_go 1 a_Mr_readRow_104 rfl
theorem a_Mr_readRow_107 : dk_at b_Mr_readRow 107 t_Mr_readRow_107 := dk_go 2 a_Mr_readRow_105 rfl
theorem a_Mr_readRow_108 : dk_at b_Mr_readRow 108 t_Mr_readRow_108 := dk_go 1 a_Mr_readRow_107 rfl
theorem a_Mr_readRow_111 : dk_at b_Mr_readRow 111 t_Mr_readRow_111 := dk_go 3 a_Mr_readRow_108 rfl
theorem a_Mr_readRow_112 : dk_at b_Mr_readRow 112 t_Mr_readRow_112 := dk_go 1 a_Mr_readRow_111 rfl
theorem a_Mr_readRow_113 : dk_at b_Mr_readRow 113 t_Mr_readRow_113 := dk_go 1 a_Mr_readRow_112 rfl
theorem a_Mr_readRow_116 : dk_at b_Mr_readRow 116 t_Mr_readRow_116 := dk_go 3 a_Mr_readRow_113 rfl
theorem a_Mr_readRow_117 : dk_at b_Mr_readRow 117 t_Mr_readRow_117 := dk_go 1 a_Mr_readRow_116 rfl
theorem a_Mr_readRow_118 : dk_at b_Mr_readRow 118 t_Mr_readRow_118 := dk_go 1 a_Mr_readRow_117 rfl
theorem a_Mr_readRow_121 : dk_at b_Mr_readRow 121 t_Mr_readRow_121 := dk_go 3 a_Mr_readRow_118 rfl
theorem a_Mr_readRow_124 : dk_at b_Mr_readRow 124 t_Mr_readRow_124 := dk_go 3 a_Mr_readRow_121 rfl
theorem a_Mr_readRow_125 : dk_at b_Mr_readRow 125 t_Mr_readRow_125 := dk_go 1 a_Mr_readRow_124 rfl
theorem a_Mr_readRow_128 : dk_at b_Mr_readRow 128 t_Mr_readRow_128 := dk_go 3 a_Mr_readRow_125 rfl
theorem a_Mr_readRow_129 : dk_at b_Mr_readRow 129 t_Mr_readRow_129 := dk_go 1 a_Mr_readRow_128 rfl
theorem a_Mr_readRow_131 : dk_at b_Mr_readRow 131 t_Mr_readRow_131 := dk_go 2 a_Mr_readRow_129 rfl
theorem a_Mr_readRow_133 : dk_at b_Mr_readRow 133 t_Mr_readRow_133 := dk_go 2 a_Mr_readRow_131 rfl
theorem a_Mr_readRow_135 : dk_at b_Mr_readRow 135 t_Mr_readRow_135 := dk_go 2 a_Mr_readRow_133 rfl
theorem a_Mr_readRow_137 : dk_at b_Mr_readRow 137 t_Mr_readRow_137 := dk_go 2 a_Mr_readRow_135 rfl
theorem a_Mr_readRow_138 : dk_at b_Mr_readRow 138 t_Mr_readRow_138 := dk_go 1 a_Mr_readRow_137 rfl
theorem a_Mr_readRow_139 : dk_at b_Mr_readRow 139 t_Mr_readRow_139 := dk_go 1 a_Mr_readRow_138 rfl
theorem a_Mr_readRow_140 : dk_at b_Mr_readRow 140 t_Mr_readRow_140 := dk_go 1 a_Mr_readRow_139 rfl
theorem a_Mr_readRow_141 : dk_at b_Mr_readRow 141 t_Mr_readRow_141 := dk_go 1 a_Mr_readRow_140 rfl
theorem a_Mr_readRow_144 : dk_at b_Mr_readRow 144 t_Mr_readRow_144 := dk_go 3 a_Mr_readRow_141 rfl
theorem a_Mr_readRow_147 : dk_at b_Mr_readRow 147 t_Mr_readRow_147 := dk_go 3 a_Mr_readRow_144 rfl
theorem a_Mr_readRow_148 : dk_at b_Mr_readRow 148 t_Mr_readRow_148 := dk_go 1 a_Mr_readRow_147 rfl
theorem a_Mr_readRow_149 : dk_at b_Mr_readRow 149 t_Mr_readRow_149 := dk_go 1 a_Mr_readRow_148 rfl
theorem a_Mr_readRow_150 : dk_at b_Mr_readRow 150 t_Mr_readRow_150 := dk_go 1 a_Mr_readRow_149 rfl
theorem a_Mr_readRow_153 : dk_at b_Mr_readRow 153 t_Mr_readRow_153 := dk_go 3 a_Mr_readRow_150 rfl
theorem a_Mr_readRow_154 : dk_at b_Mr_readRow 154 t_Mr_readRow_154 := dk_go 1 a_Mr_readRow_153 rfl
theorem a_Mr_readRow_155 : dk_at b_Mr_readRow 155 t_Mr_readRow_155 := dk_go 1 a_Mr_readRow_154 rfl
theorem a_Mr_readRow_156 : dk_at b_Mr_readRow 156 t_Mr_readRow_156 := dk_go 1 a_Mr_readRow_155 rfl
theorem a_Mr_readRow_157 : dk_at b_Mr_readRow 157 t_Mr_readRow_157 := dk_go 1 a_Mr_readRow_156 rfl
theorem a_Mr_readRow_158 : dk_at b_Mr_readRow 158 t_Mr_readRow_158 := dk_go 1 a_Mr_readRow_157 rfl
theorem a_Mr_readRow_161 : dk_at b_Mr_readRow 161 t_Mr_readRow_161 := dk_go 3 a_Mr_readRow_158 rfl
theorem a_Mr_readRow_162 : dk_at b_Mr_readRow 162 t_Mr_readRow_162 := dk_go 1 a_Mr_readRow_161 rfl
theorem a_Mr_readRow_163 : dk_at b_Mr_readRow 163 t_Mr_readRow_163 := dk_go 1 a_Mr_readRow_162 rfl
theorem a_Mr_readRow_166 : dk_at b_Mr_readRow 166 t_Mr_readRow_166 := dk_go 3 a_Mr_readRow_163 rfl
theorem a_Mr_readRow_167 : dk_at b_Mr_readRow 167 t_Mr_readRow_167 := dk_go 1 a_Mr_readRow_166 rfl
theorem a_Mr_readRow_168 : dk_at b_Mr_readRow 168 t_Mr_readRow_168 := dk_go 1 a_Mr_readRow_167 rfl
theorem a_Mr_readRow_171 : dk_at b_Mr_readRow 171 t_Mr_readRow_171 := dk_go 3 a_Mr_readRow_168 rfl
theorem a_Mr_readRow_172 : dk_at b_Mr_readRow 172 t_Mr_readRow_172 := dk_go 1 a_Mr_readRow_171 rfl
theorem a_Mr_readRow_173 : dk_at b_Mr_readRow 173 t_Mr_readRow_173 := dk_go 1 a_Mr_readRow_172 rfl
theorem a_Mr_readRow_176 : dk_at b_Mr_readRow 176 t_Mr_readRow_176 := dk_go 3 a_Mr_readRow_173 rfl
theorem a_Mr_readRow_177 : dk_at b_Mr_readRow 177 t_Mr_readRow_177 := dk_go 1 a_Mr_readRow_176 rfl
theorem a_Mr_readRow_180 : dk_at b_Mr_readRow 180 t_Mr_readRow_180 := dk_go 3 a_Mr_readRow_177 rfl
theorem a_Mr_readRow_181 : dk_at b_Mr_readRow 181 t_Mr_readRow_181 := dk_go 1 a_Mr_readRow_180 rfl
theorem a_Mr_readRow_182 : dk_at b_Mr_readRow 182 t_Mr_readRow_182 := dk_go 1 a_Mr_readRow_181 rfl
theorem a_Mr_readRow_185 : dk_at b_Mr_readRow 185 t_Mr_readRow_185 := dk_go 3 a_Mr_readRow_182 rfl
theorem a_Mr_readRow_186 : dk_at b_Mr_readRow 186 t_Mr_readRow_186 := dk_go 1 a_Mr_readRow_185 rfl
theorem a_Mr_readRow_187 : dk_at b_Mr_readRow 187 t_Mr_readRow_187 := dk_go 1 a_Mr_readRow_186 rfl
theorem a_Mr_readRow_190 : dk_at b_Mr_readRow 190 t_Mr_readRow_190 := dk_go 3 a_Mr_readRow_187 rfl
theorem a_Mr_readRow_191 : dk_at b_Mr_readRow 191 t_Mr_readRow_191 := dk_go 1 a_Mr_readRow_190 rfl
theorem a_Mr_readRow_192 : dk_at b_Mr_readRow 192 t_Mr_readRow_192 := dk_go 1 a_Mr_readRow_191 rfl
theorem a_Mr_readRow_195 : dk_at b_Mr_readRow 195 t_Mr_readRow_195 := dk_go 3 a_Mr_readRow_192 rfl
theorem a_Mr_readRow_196 : dk_at b_Mr_readRow 196 t_Mr_readRow_196 := dk_go 1 a_Mr_readRow_195 rfl
theorem a_Mr_readRow_197 : dk_at b_Mr_readRow 197 t_Mr_readRow_197 := dk_go 1 a_Mr_readRow_196 rfl
theorem a_Mr_readRow_198 : dk_at b_Mr_readRow 198 t_Mr_readRow_198 := dk_go 1 a_Mr_readRow_197 rfl
theorem a_Mr_readRow_201 : dk_at b_Mr_readRow 201 t_Mr_readRow_201 := dk_go 3 a_Mr_readRow_198 rfl
theorem a_Mr_readRow_202 : dk_at b_Mr_readRow 202 t_Mr_readRow_202 := dk_go 1 a_Mr_readRow_201 rfl
theorem a_Mr_readRow_203 : dk_at b_Mr_readRow 203 t_Mr_readRow_203 := dk_go 1 a_Mr_readRow_202 rfl
theorem a_Mr_readRow_206 : dk_at b_Mr_readRow 206 t_Mr_readRow_206 := dk_go 3 a_Mr_readRow_203 rfl
theorem a_Mr_readRow_207 : dk_at b_Mr_readRow 207 t_Mr_readRow_207 := dk_go 1 a_Mr_readRow_206 rfl
theorem a_Mr_readRow_208 : dk_at b_Mr_readRow 208 t_Mr_readRow_208 := dk_go 1 a_Mr_readRow_207 rfl
theorem a_Mr_readRow_211 : dk_at b_Mr_readRow 211 t_Mr_readRow_211 := dk_go 3 a_Mr_readRow_208 rfl
theorem a_Mr_readRow_212 : dk_at b_Mr_readRow 212 t_Mr_readRow_212 := dk_go 1 a_Mr_readRow_211 rfl
theorem a_Mr_readRow_213 : dk_at b_Mr_readRow 213 t_Mr_readRow_213 := dk_go 1 a_Mr_readRow_212 rfl
theorem a_Mr_readRow_214 : dk_at b_Mr_readRow 214 t_Mr_readRow_214 := dk_go 1 a_Mr_readRow_213 rfl
theorem a_Mr_readRow_215 : dk_at b_Mr_readRow 215 t_Mr_readRow_215 := dk_go 1 a_Mr_readRow_214 rfl
theorem a_Mr_readRow_217 : dk_at b_Mr_readRow 217 t_Mr_readRow_217 := dk_go 2 a_Mr_readRow_215 rfl
theorem a_Mr_readRow_219 : dk_at b_Mr_readRow 219 t_Mr_readRow_219 := dk_go 2 a_Mr_readRow_217 rfl
theorem a_Mr_readRow_221 : dk_at b_Mr_readRow 221 t_Mr_readRow_221 := dk_go 2 a_Mr_readRow_219 rfl
theorem a_Mr_readRow_222 : dk_at b_Mr_readRow 222 t_Mr_readRow_222 := dk_go 1 a_Mr_readRow_221 rfl
theorem a_Mr_readRow_223 : dk_at b_Mr_readRow 223 t_Mr_readRow_223 := dk_go 1 a_Mr_readRow_222 rfl
theorem a_Mr_readRow_224 : dk_at b_Mr_readRow 224 t_Mr_readRow_224 := dk_go 1 a_Mr_readRow_223 rfl
theorem a_Mr_readRow_225 : dk_at b_Mr_readRow 225 t_Mr_readRow_225 := dk_go 1 a_Mr_readRow_224 rfl
theorem a_Mr_readRow_226 : dk_at b_Mr_readRow 226 t_Mr_readRow_226 := dk_go 1 a_Mr_readRow_225 rfl
theorem a_Mr_readRow_229 : dk_at b_Mr_readRow 229 t_Mr_readRow_229 := dk_go 3 a_Mr_readRow_226 rfl
theorem a_Mr_readRow_232 : dk_at b_Mr_readRow 232 t_Mr_readRow_232 := dk_go 3 a_Mr_readRow_229 rfl
theorem a_Mr_readRow_233 : dk_at b_Mr_readRow 233 t_Mr_readRow_233 := dk_go 1 a_Mr_readRow_232 rfl
theorem a_Mr_readRow_234 : dk_at b_Mr_readRow 234 t_Mr_readRow_234 := dk_go 1 a_Mr_readRow_233 rfl
theorem a_Mr_readRow_237 : dk_at b_Mr_readRow 237 t_Mr_readRow_237 := dk_go 3 a_Mr_readRow_234 rfl
theorem a_Mr_readRow_238 : dk_at b_Mr_readRow 238 t_Mr_readRow_238 := dk_go 1 a_Mr_readRow_237 rfl
theorem a_Mr_readRow_239 : dk_at b_Mr_readRow 239 t_Mr_readRow_239 := dk_go 1 a_Mr_readRow_238 rfl
theorem a_Mr_readRow_242 : dk_at b_Mr_readRow 242 t_Mr_readRow_242 := dk_go 3 a_Mr_readRow_239 rfl
theorem a_Mr_readRow_243 : dk_at b_Mr_readRow 243 t_Mr_readRow_243 := dk_go 1 a_Mr_readRow_242 rfl
theorem a_Mr_readRow_244 : dk_at b_Mr_readRow 244 t_Mr_readRow_244 := dk_go 1 a_Mr_readRow_243 rfl
theorem a_Mr_readRow_247 : dk_at b_Mr_readRow 247 t_Mr_readRow_247 := dk_go 3 a_Mr_readRow_244 rfl
theorem a_Mr_readRow_250 : dk_at b_Mr_readRow 250 t_Mr_readRow_250 := dk_go 3 a_Mr_readRow_247 rfl
theorem a_Mr_readRow_252 : dk_at b_Mr_readRow 252 t_Mr_readRow_252 := dk_go 2 a_Mr_readRow_250 rfl
theorem a_Mr_readRow_254 : dk_at b_Mr_readRow 254 t_Mr_readRow_254 := dk_go 2 a_Mr_readRow_252 rfl
theorem a_Mr_readRow_257 : dk_at b_Mr_readRow 257 t_Mr_readRow_257 := dk_go 3 a_Mr_readRow_254 rfl
theorem a_Mr_readRow_258 : dk_at b_Mr_readRow 258 t_Mr_readRow_258 := dk_go 1 a_Mr_readRow_257 rfl
theorem a_Mr_readRow_259 : dk_at b_Mr_readRow 259 t_Mr_readRow_259 := dk_go 1 a_Mr_readRow_258 rfl
theorem a_Mr_readRow_260 : dk_at b_Mr_readRow 260 t_Mr_readRow_260 := dk_go 1 a_Mr_readRow_259 rfl
theorem a_Mr_readRow_263 : dk_at b_Mr_readRow 263 t_Mr_readRow_263 := dk_go 3 a_Mr_readRow_260 rfl
theorem a_Mr_readRow_264 : dk_at b_Mr_readRow 264 t_Mr_readRow_264 := dk_go 1 a_Mr_readRow_263 rfl
theorem a_Mr_readRow_266 : dk_at b_Mr_readRow 266 t_Mr_readRow_266 := dk_go 2 a_Mr_readRow_264 rfl
theorem a_Mr_readRow_267 : dk_at b_Mr_readRow 267 t_Mr_readRow_267 := dk_go 1 a_Mr_readRow_266 rfl
theorem a_Mr_readRow_268 : dk_at b_Mr_readRow 268 t_Mr_readRow_268 := dk_go 1 a_Mr_readRow_267 rfl
theorem a_Mr_readRow_269 : dk_at b_Mr_readRow 269 t_Mr_readRow_269 := dk_go 1 a_Mr_readRow_268 rfl
theorem a_Mr_readRow_272 : dk_at b_Mr_readRow 272 t_Mr_readRow_272 := dk_go 3 a_Mr_readRow_269 rfl
theorem a_Mr_readRow_273 : dk_at b_Mr_readRow 273 t_Mr_readRow_273 := dk_go 1 a_Mr_readRow_272 rfl
theorem a_Mr_readRow_274 : dk_at b_Mr_readRow 274 t_Mr_readRow_274 := dk_go 1 a_Mr_readRow_273 rfl
theorem a_Mr_readRow_277 : dk_at b_Mr_readRow 277 t_Mr_readRow_277 := dk_go 3 a_Mr_readRow_274 rfl
theorem a_Mr_readRow_278 : dk_at b_Mr_readRow 278 t_Mr_readRow_278 := dk_go 1 a_Mr_readRow_277 rfl
theorem a_Mr_readRow_281 : dk_at b_Mr_readRow 281 t_Mr_readRow_281 := dk_go 3 a_Mr_readRow_278 rfl
theorem a_Mr_readRow_282 : dk_at b_Mr_readRow 282 t_Mr_readRow_282 := dk_go 1 a_Mr_readRow_281 rfl
theorem a_Mr_readRow_283 : dk_at b_Mr_readRow 283 t_Mr_readRow_283 := dk_go 1 a_Mr_readRow_282 rfl
theorem a_Mr_readRow_285 : dk_at b_Mr_readRow 285 t_Mr_readRow_285 := dk_go 2 a_Mr_readRow_283 rfl
theorem a_Mr_readRow_287 : dk_at b_Mr_readRow 287 t_Mr_readRow_287 := dk_go 2 a_Mr_readRow_285 rfl
theorem a_Mr_readRow_289 : dk_at b_Mr_readRow 289 t_Mr_readRow_289 := dk_go 2 a_Mr_readRow_287 rfl
theorem a_Mr_readRow_291 : dk_at b_Mr_readRow 291 t_Mr_readRow_291 := dk_go 2 a_Mr_readRow_289 rfl
theorem a_Mr_readRow_293 : dk_at b_Mr_readRow 293 t_Mr_readRow_293 := dk_go 2 a_Mr_readRow_291 rfl
theorem a_Mr_readRow_295 : dk_at b_Mr_readRow 295 t_Mr_readRow_295 := dk_go 2 a_Mr_readRow_293 rfl
theorem a_Mr_readRow_297 : dk_at b_Mr_readRow 297 t_Mr_readRow_297 := dk_go 2 a_Mr_readRow_295 rfl
theorem a_Mr_readRow_299 : dk_at b_Mr_readRow 299 t_Mr_readRow_299 := dk_go 2 a_Mr_readRow_297 rfl
theorem a_Mr_readRow_302 : dk_at b_Mr_readRow 302 t_Mr_readRow_302 := dk_go 3 a_Mr_readRow_299 rfl
theorem a_Mr_readRow_303 : dk_at b_Mr_readRow 303 t_Mr_readRow_303 := dk_go 1 a_Mr_readRow_302 rfl
theorem a_Mr_readRow_304 : dk_at b_Mr_readRow 304 t_Mr_readRow_304 := dk_go 1 a_Mr_readRow_303 rfl
theorem a_Mr_readRow_305 : dk_at b_Mr_readRow 305 t_Mr_readRow_305 := dk_go 1 a_Mr_readRow_304 rfl
theorem a_Mr_readRow_308 : dk_at b_Mr_readRow 308 t_Mr_readRow_308 := dk_go 3 a_Mr_readRow_305 rfl
theorem a_Mr_readRow_309 : dk_at b_Mr_readRow 309 t_Mr_readRow_309 := dk_go 1 a_Mr_readRow_308 rfl
theorem a_Mr_readRow_312 : dk_at b_Mr_readRow 312 t_Mr_readRow_312 := dk_go 3 a_Mr_readRow_309 rfl
theorem a_Mr_readRow_313 : dk_at b_Mr_readRow 313 t_Mr_readRow_313 := dk_go 1 a_Mr_readRow_312 rfl
theorem a_Mr_readRow_314 : dk_at b_Mr_readRow 314 t_Mr_readRow_314 := dk_go 1 a_Mr_readRow_313 rfl
theorem a_Mr_readRow_317 : dk_at b_Mr_readRow 317 t_Mr_readRow_317 := dk_go 3 a_Mr_readRow_314 rfl
theorem a_Mr_readRow_318 : dk_at b_Mr_readRow 318 t_Mr_readRow_318 := dk_go 1 a_Mr_readRow_317 rfl
theorem a_Mr_readRow_321 : dk_at b_Mr_readRow 321 t_Mr_readRow_321 := dk_go 3 a_Mr_readRow_318 rfl
theorem a_Mr_readRow_322 : dk_at b_Mr_readRow 322 t_Mr_readRow_322 := dk_go 1 a_Mr_readRow_321 rfl
theorem a_Mr_readRow_323 : dk_at b_Mr_readRow 323 t_Mr_readRow_323 := dk_go 1 a_Mr_readRow_322 rfl
theorem a_Mr_readRow_326 : dk_at b_Mr_readRow 326 t_Mr_readRow_326 := dk_go 3 a_Mr_readRow_323 rfl
theorem a_Mr_readRow_327 : dk_at b_Mr_readRow 327 t_Mr_readRow_327 := dk_go 1 a_Mr_readRow_326 rfl
theorem a_Mr_readRow_329 : dk_at b_Mr_readRow 329 t_Mr_readRow_329 := dk_go 2 a_Mr_readRow_327 rfl
theorem a_Mr_readRow_332 : dk_at b_Mr_readRow 332 t_Mr_readRow_332 := dk_go 3 a_Mr_readRow_329 rfl
theorem a_Mr_readRow_335 : dk_at b_Mr_readRow 335 t_Mr_readRow_335 := dk_go 3 a_Mr_readRow_332 rfl
theorem a_Mr_readRow_336 : dk_at b_Mr_readRow 336 t_Mr_readRow_336 := dk_go 1 a_Mr_readRow_335 rfl
theorem a_Mr_readRow_337 : dk_at b_Mr_readRow 337 t_Mr_readRow_337 := dk_go 1 a_Mr_readRow_336 rfl
theorem a_Mr_readRow_338 : dk_at b_Mr_readRow 338 t_Mr_readRow_338 := dk_go 1 a_Mr_readRow_337 rfl
theorem a_Mr_readRow_339 : dk_at b_Mr_readRow 339 t_Mr_readRow_339 := dk_go 1 a_Mr_readRow_338 rfl
theorem a_Mr_readRow_342 : dk_at b_Mr_readRow 342 t_Mr_readRow_342 := dk_go 3 a_Mr_readRow_339 rfl
theorem a_Mr_readRow_343 : dk_at b_Mr_readRow 343 t_Mr_readRow_343 := dk_go 1 a_Mr_readRow_342 rfl
theorem a_Mr_readRow_344 : dk_at b_Mr_readRow 344 t_Mr_readRow_344 := dk_go 1 a_Mr_readRow_343 rfl
theorem a_Mr_readRow_347 : dk_at b_Mr_readRow 347 t_Mr_readRow_347 := dk_go 3 a_Mr_readRow_344 rfl
theorem a_Mr_readRow_348 : dk_at b_Mr_readRow 348 t_Mr_readRow_348 := dk_go 1 a_Mr_readRow_347 rfl
theorem a_Mr_readRow_349 : dk_at b_Mr_readRow 349 t_Mr_readRow_349 := dk_go 1 a_Mr_readRow_348 rfl
theorem a_Mr_readRow_352 : dk_at b_Mr_readRow 352 t_Mr_readRow_352 := dk_go 3 a_Mr_readRow_349 rfl
theorem a_Mr_readRow_353 : dk_at b_Mr_readRow 353 t_Mr_readRow_353 := dk_go 1 a_Mr_readRow_352 rfl
theorem a_Mr_readRow_354 : dk_at b_Mr_readRow 354 t_Mr_readRow_354 := dk_go 1 a_Mr_readRow_353 rfl
theorem a_Mr_readRow_357 : dk_at b_Mr_readRow 357 t_Mr_readRow_357 := dk_go 3 a_Mr_readRow_354 rfl
theorem a_Mr_readRow_358 : dk_at b_Mr_readRow 358 t_Mr_readRow_358 := dk_go 1 a_Mr_readRow_357 rfl
theorem d_Mr_readRow_0 : decode b_Mr_readRow 0 = .ok (.bipush 40, 2) := dk_S1 a_Mr_readRow_0 (dko_16 _) (by decide +kernel)
theorem d_Mr_readRow_2 : decode b_Mr_readRow 2 = .ok (.iconst 1, 1) := dk_0 a_Mr_readRow_2 (dko_4 _)
theorem d_Mr_readRow_3 : decode b_Mr_readRow 3 = .ok (.aload_n 0, 1) := dk_0 a_Mr_readRow_3 (dko_42 _)
theorem d_Mr_readRow_4 : decode b_Mr_readRow 4 = .ok (.getfield 85, 3) := dk_U2 a_Mr_readRow_4 (dko_180 _) rfl
theorem d_Mr_readRow_7 : decode b_Mr_readRow 7 = .ok (.isub, 1) := dk_0 a_Mr_readRow_7 (dko_100 _)
theorem d_Mr_readRow_8 : decode b_Mr_readRow 8 = .ok (.imul, 1) := dk_0 a_Mr_readRow_8 (dko_104 _)
theorem d_Mr_readRow_9 : decode b_Mr_readRow 9 = .ok (.aload_n 0, 1) := dk_0 a_Mr_readRow_9 (dko_42 _)
theorem d_Mr_readRow_10 : decode b_Mr_readRow 10 = .ok (.getfield 120, 3) := dk_U2 a_Mr_readRow_10 (dko_180 _) rfl
theorem d_Mr_readRow_13 : decode b_Mr_readRow 13 = .ok (.iadd, 1) := dk_0 a_Mr_readRow_13 (dko_96 _)
theorem d_Mr_readRow_14 : decode b_Mr_readRow 14 = .ok (.istore_n 1, 1) := dk_0 a_Mr_readRow_14 (dko_60 _)
theorem d_Mr_readRow_15 : decode b_Mr_readRow 15 = .ok (.aload_n 0, 1) := dk_0 a_Mr_readRow_15 (dko_42 _)
theorem d_Mr_readRow_16 : decode b_Mr_readRow 16 = .ok (.dup, 1) := dk_0 a_Mr_readRow_16 (dko_89 _)
theorem d_Mr_readRow_17 : decode b_Mr_readRow 17 = .ok (.getfield 70, 3) := dk_U2 a_Mr_readRow_17 (dko_180 _) rfl
theorem d_Mr_readRow_20 : decode b_Mr_readRow 20 = .ok (.iconst 1, 1) := dk_0 a_Mr_readRow_20 (dko_4 _)
theorem d_Mr_readRow_21 : decode b_Mr_readRow 21 = .ok (.iadd, 1) := dk_0 a_Mr_readRow_21 (dko_96 _)
theorem d_Mr_readRow_22 : decode b_Mr_readRow 22 = .ok (.putfield 70, 3) := dk_U2 a_Mr_readRow_22 (dko_181 _) rfl
theorem d_Mr_readRow_25 : decode b_Mr_readRow 25 = .ok (.iconst 0, 1) := dk_0 a_Mr_readRow_25 (dko_3 _)
theorem d_Mr_readRow_26 : decode b_Mr_readRow 26 = .ok (.istore_n 2, 1) := dk_0 a_Mr_readRow_26 (dko_61 _)
theorem d_Mr_readRow_27 : decode b_Mr_readRow 27 = .ok (.iconst 1, 1) := dk_0 a_Mr_readRow_27 (dko_4 _)
theorem d_Mr_readRow_28 : decode b_Mr_readRow 28 = .ok (.istore_n 3, 1) := dk_0 a_Mr_readRow_28 (dko_62 _)
theorem d_Mr_readRow_29 : decode b_Mr_readRow 29 = .ok (.iload_n 3, 1) := dk_0 a_Mr_readRow_29 (dko_29 _)
theorem d_Mr_readRow_30 : decode b_Mr_readRow 30 = .ok (.ifCond .eq 94, 3) := dk_S2 a_Mr_readRow_30 (dko_153 _) (by decide +kernel)
theorem d_Mr_readRow_33 : decode b_Mr_readRow 33 = .ok (.aload_n 0, 1) := dk_0 a_Mr_readRow_33 (dko_42 _)
theorem d_Mr_readRow_34 : decode b_Mr_readRow 34 = .ok (.invokevirtual 123, 3) := dk_U2 a_Mr_readRow_34 (dko_182 _) rfl
theorem d_Mr_readRow_37 : decode b_Mr_readRow 37 = .ok (.istore 4, 2) := dk_U1 a_Mr_readRow_37 (dko_54 _) rfl
theorem d_Mr_readRow_39 : decode b_Mr_readRow 39 = .ok (.iconst 0, 1) := dk_0 a_Mr_readRow_39 (dko_3 _)
theorem d_Mr_readRow_40 : decode b_Mr_readRow 40 = .ok (.istore 5, 2) := dk_U1 a_Mr_readRow_40 (dko_54 _) rfl
theorem d_Mr_readRow_42 : decode b_Mr_readRow 42 = .ok (.iload 5, 2) := dk_U1 a_Mr_readRow_42 (dko_21 _) rfl
theorem d_Mr_readRow_44 : decode b_Mr_readRow 44 = .ok (.iload_n 2, 1) := dk_0 a_Mr_readRow_44 (dko_28 _)
theorem d_Mr_readRow_45 : decode b_Mr_readRow 45 = .ok (.if_icmp .ge 34, 3) := dk_S2 a_Mr_readRow_45 (dko_162 _) (by decide +kernel)
theorem d_Mr_readRow_48 : decode b_Mr_readRow 48 = .ok (.aload_n 0, 1) := dk_0 a_Mr_readRow_48 (dko_42 _)
theorem d_Mr_readRow_49 : decode b_Mr_readRow 49 = .ok (.getfield 37, 3) := dk_U2 a_Mr_readRow_49 (dko_180 _) rfl
theorem d_Mr_readRow_52 : decode b_Mr_readRow 52 = .ok (.bipush 8, 2) := dk_S1 a_Mr_readRow_52 (dko_16 _) (by decide +kernel)
theorem d_Mr_readRow_54 : decode b_Mr_readRow 54 = .ok (.iload_n 1, 1) := dk_0 a_Mr_readRow_54 (dko_27 _)
theorem d_Mr_readRow_55 : decode b_Mr_readRow 55 = .ok (.imul, 1) := dk_0 a_Mr_readRow_55 (dko_104 _)
theorem d_Mr_readRow_56 : decode b_Mr_readRow 56 = .ok (.iload 5, 2) := dk_U1 a_Mr_readRow_56 (dko_21 _) rfl
theorem d_Mr_readRow_58 : decode b_Mr_readRow 58 = .ok (.iadd, 1) := dk_0 a_Mr_readRow_58 (dko_96 _)
theorem d_Mr_readRow_59 : decode b_Mr_readRow 59 = .ok (.iaload, 1) := dk_0 a_Mr_readRow_59 (dko_46 _)
theorem d_Mr_readRow_60 : decode b_Mr_readRow 60 = .ok (.iload 4, 2) := dk_U1 a_Mr_readRow_60 (dko_21 _) rfl
theorem d_Mr_readRow_62 : decode b_Mr_readRow 62 = .ok (.if_icmp .ne 7, 3) := dk_S2 a_Mr_readRow_62 (dko_160 _) (by decide +kernel)
theorem d_Mr_readRow_65 : decode b_Mr_readRow 65 = .ok (.iconst (-1), 1) := dk_0 a_Mr_readRow_65 (dko_2 _)
theorem d_Mr_readRow_66 : decode b_Mr_readRow 66 = .ok (.goto 5, 3) := dk_S2 a_Mr_readRow_66 (dko_167 _) (by decide +kernel)
theorem d_Mr_readRow_69 : decode b_Mr_readRow 69 = .ok (.iload 4, 2) := dk_U1 a_Mr_readRow_69 (dko_21 _) rfl
theorem d_Mr_readRow_71 : decode b_Mr_readRow 71 = .ok (.istore 4, 2) := dk_U1 a_Mr_readRow_71 (dko_54 _) rfl
theorem d_Mr_readRow_73 : decode b_Mr_readRow 73 = .ok (.iinc 5 1, 3) := dk_US a_Mr_readRow_73 (dko_132 _) (by decide +kernel)
theorem d_Mr_readRow_76 : decode b_Mr_readRow 76 = .ok (.goto (-34), 3) := dk_S2 a_Mr_readRow_76 (dko_167 _) (by decide +kernel)
theorem d_Mr_readRow_79 : decode b_Mr_readRow 79 = .ok (.iload 4, 2) := dk_U1 a_Mr_readRow_79 (dko_21 _) rfl
theorem d_Mr_readRow_81 : decode b_Mr_readRow 81 = .ok (.ifCond .lt 9, 3) := dk_S2 a_Mr_readRow_81 (dko_155 _) (by decide +kernel)
theorem d_Mr_readRow_84 : decode b_Mr_readRow 84 = .ok (.iload_n 2, 1) := dk_0 a_Mr_readRow_84 (dko_28 _)
theorem d_Mr_readRow_85 : decode b_Mr_readRow 85 = .ok (.bipush 8, 2) := dk_S1 a_Mr_readRow_85 (dko_16 _) (by decide +kernel)
theorem d_Mr_readRow_87 : decode b_Mr_readRow 87 = .ok (.if_icmp .ne 8, 3) := dk_S2 a_Mr_readRow_87 (dko_160 _) (by decide +kernel)
theorem d_Mr_readRow_90 : decode b_Mr_readRow 90 = .ok (.iconst 0, 1) := dk_0 a_Mr_readRow_90 (dko_3 _)
theorem d_Mr_readRow_91 : decode b_Mr_readRow 91 = .ok (.istore_n 3, 1) := dk_0 a_Mr_readRow_91 (dko_62 _)
theorem d_Mr_readRow_92 : decode b_Mr_readRow 92 = .ok (.goto 29, 3) := dk_S2 a_Mr_readRow_92 (dko_167 _) (by decide +kernel)
theorem d_Mr_readRow_95 : decode b_Mr_readRow 95 = .ok (.aload_n 0, 1) := dk_0 a_Mr_readRow_95 (dko_42 _)
theorem d_Mr_readRow_96 : decode b_Mr_readRow 96 = .ok (.getfield 37, 3) := dk_U2 a_Mr_readRow_96 (dko_180 _) rfl
theorem d_Mr_readRow_99 : decode b_Mr_readRow 99 = .ok (.bipush 8, 2) := dk_S1 a_Mr_readRow_99 (dko_16 _) (by decide +kernel)
theorem d_Mr_readRow_101 : decode b_Mr_readRow 101 = .ok (.iload_n 1, 1) := dk_0 a_Mr_readRow_101 (dko_27 _)
theorem d_Mr_readRow_102 : decode b_Mr_readRow 102 = .ok (.imul, 1) := dk_0 a_Mr_readRow_102 (dko_104 _)
theorem d_Mr_readRow_103 : decode b_Mr_readRow 103 = .ok (.iload_n 2, 1) := dk_0 a_Mr_readRow_103 (dko_28 _)
theorem d_Mr_readRow_104 : decode b_Mr_readRow 104 = .ok (.iadd, 1) := dk_0 a_Mr_readRow_104 (dko_96 _)
theorem d_Mr_readRow_105 : decode b_Mr_readRow 105 = .ok (.iload 4, 2) := dk_U1 a_Mr_readRow_105 (dko_21 _) rfl
theorem d_Mr_readRow_107 : decode b_Mr_readRow 107 = .ok (.iastore, 1) := dk_0 a_Mr_readRow_107 (dko_79 _)
theorem d_Mr_readRow_108 : decode b_Mr_readRow 108 = .ok (.iinc 2 1, 3) := dk_US a_Mr_readRow_108 (dko_132 _) (by decide +kernel)
theorem d_Mr_readRow_111 : decode b_Mr_readRow 111 = .ok (.aload_n 0, 1) := dk_0 a_Mr_readRow_111 (dko_42 _)
theorem d_Mr_readRow_112 : decode b_Mr_readRow 112 = .ok (.dup, 1) := dk_0 a_Mr_readRow_112 (dko_89 _)
theorem d_Mr_readRow_113 : decode b_Mr_readRow 113 = .ok (.getfield 70, 3) := dk_U2 a_Mr_readRow_113 (dko_180 _) rfl
theorem d_Mr_readRow_116 : decode b_Mr_readRow 116 = .ok (.iconst 1, 1) := dk_0 a_Mr_readRow_116 (dko_4 _)
theorem d_Mr_readRow_117 : decode b_Mr_readRow 117 = .ok (.iadd, 1) := dk_0 a_Mr_readRow_117 (dko_96 _)
theorem d_Mr_readRow_118 : decode b_Mr_readRow 118 = .ok (.putfield 70, 3) := dk_U2 a_Mr_readRow_118 (dko_181 _) rfl
theorem d_Mr_readRow_121 : decode b_Mr_readRow 121 = .ok (.goto (-92), 3) := dk_S2 a_Mr_readRow_121 (dko_167 _) (by decide +kernel)
theorem d_Mr_readRow_124 : decode b_Mr_readRow 124 = .ok (.iload_n 2, 1) := dk_0 a_Mr_readRow_124 (dko_28 _)
theorem d_Mr_readRow_125 : decode b_Mr_readRow 125 = .ok (.ifCond .eq 22, 3) := dk_S2 a_Mr_readRow_125 (dko_153 _) (by decide +kernel)
theorem d_Mr_readRow_128 : decode b_Mr_readRow 128 = .ok (.aload_n 0, 1) := dk_0 a_Mr_readRow_128 (dko_42 _)
theorem d_Mr_readRow_129 : decode b_Mr_readRow 129 = .ok (.bipush 119, 2) := dk_S1 a_Mr_readRow_129 (dko_16 _) (by decide +kernel)
theorem d_Mr_readRow_131 : decode b_Mr_readRow 131 = .ok (.bipush 104, 2) := dk_S1 a_Mr_readRow_131 (dko_16 _) (by decide +kernel)
theorem d_Mr_readRow_133 : decode b_Mr_readRow 133 = .ok (.bipush 101, 2) := dk_S1 a_Mr_readRow_133 (dko_16 _) (by decide +kernel)
theorem d_Mr_readRow_135 : decode b_Mr_readRow 135 = .ok (.bipush 110, 2) := dk_S1 a_Mr_readRow_135 (dko_16 _) (by decide +kernel)
theorem d_Mr_readRow_137 : decode b_Mr_readRow 137 = .ok (.iconst 0, 1) := dk_0 a_Mr_readRow_137 (dko_3 _)
theorem d_Mr_readRow_138 : decode b_Mr_readRow 138 = .ok (.iconst 0, 1) := dk_0 a_Mr_readRow_138 (dko_3 _)
theorem d_Mr_readRow_139 : decode b_Mr_readRow 139 = .ok (.iconst 0, 1) := dk_0 a_Mr_readRow_139 (dko_3 _)
theorem d_Mr_readRow_140 : decode b_Mr_readRow 140 = .ok (.iconst 4, 1) := dk_0 a_Mr_readRow_140 (dko_7 _)
theorem d_Mr_readRow_141 : decode b_Mr_readRow 141 = .ok (.invokevirtual 94, 3) := dk_U2 a_Mr_readRow_141 (dko_182 _) rfl
theorem d_Mr_readRow_144 : decode b_Mr_readRow 144 = .ok (.ifCond .ne 5, 3) := dk_S2 a_Mr_readRow_144 (dko_154 _) (by decide +kernel)
theorem d_Mr_readRow_147 : decode b_Mr_readRow 147 = .ok (.iconst 0, 1) := dk_0 a_Mr_readRow_147 (dko_3 _)
theorem d_Mr_readRow_148 : decode b_Mr_readRow 148 = .ok (.ireturn, 1) := dk_0 a_Mr_readRow_148 (dko_172 _)
theorem d_Mr_readRow_149 : decode b_Mr_readRow 149 = .ok (.aload_n 0, 1) := dk_0 a_Mr_readRow_149 (dko_42 _)
theorem d_Mr_readRow_150 : decode b_Mr_readRow 150 = .ok (.getfield 34, 3) := dk_U2 a_Mr_readRow_150 (dko_180 _) rfl
theorem d_Mr_readRow_153 : decode b_Mr_readRow 153 = .ok (.iload_n 1, 1) := dk_0 a_Mr_readRow_153 (dko_27 _)
theorem d_Mr_readRow_154 : decode b_Mr_readRow 154 = .ok (.iload_n 2, 1) := dk_0 a_Mr_readRow_154 (dko_28 _)
theorem d_Mr_readRow_155 : decode b_Mr_readRow 155 = .ok (.iastore, 1) := dk_0 a_Mr_readRow_155 (dko_79 _)
theorem d_Mr_readRow_156 : decode b_Mr_readRow 156 = .ok (.aload_n 0, 1) := dk_0 a_Mr_readRow_156 (dko_42 _)
theorem d_Mr_readRow_157 : decode b_Mr_readRow 157 = .ok (.dup, 1) := dk_0 a_Mr_readRow_157 (dko_89 _)
theorem d_Mr_readRow_158 : decode b_Mr_readRow 158 = .ok (.getfield 70, 3) := dk_U2 a_Mr_readRow_158 (dko_180 _) rfl
theorem d_Mr_readRow_161 : decode b_Mr_readRow 161 = .ok (.iconst 1, 1) := dk_0 a_Mr_readRow_161 (dko_4 _)
theorem d_Mr_readRow_162 : decode b_Mr_readRow 162 = .ok (.iadd, 1) := dk_0 a_Mr_readRow_162 (dko_96 _)
theorem d_Mr_readRow_163 : decode b_Mr_readRow 163 = .ok (.putfield 70, 3) := dk_U2 a_Mr_readRow_163 (dko_181 _) rfl
theorem d_Mr_readRow_166 : decode b_Mr_readRow 166 = .ok (.aload_n 0, 1) := dk_0 a_Mr_readRow_166 (dko_42 _)
theorem d_Mr_readRow_167 : decode b_Mr_readRow 167 = .ok (.iconst 0, 1) := dk_0 a_Mr_readRow_167 (dko_3 _)
theorem d_Mr_readRow_168 : decode b_Mr_readRow 168 = .ok (.putfield 108, 3) := dk_U2 a_Mr_readRow_168 (dko_181 _) rfl
theorem d_Mr_readRow_171 : decode b_Mr_readRow 171 = .ok (.aload_n 0, 1) := dk_0 a_Mr_readRow_171 (dko_42 _)
theorem d_Mr_readRow_172 : decode b_Mr_readRow 172 = .ok (.iconst 0, 1) := dk_0 a_Mr_readRow_172 (dko_3 _)
theorem d_Mr_readRow_173 : decode b_Mr_readRow 173 = .ok (.putfield 117, 3) := dk_U2 a_Mr_readRow_173 (dko_181 _) rfl
theorem d_Mr_readRow_176 : decode b_Mr_readRow 176 = .ok (.aload_n 0, 1) := dk_0 a_Mr_readRow_176 (dko_42 _)
theorem d_Mr_readRow_177 : decode b_Mr_readRow 177 = .ok (.getfield 31, 3) := dk_U2 a_Mr_readRow_177 (dko_180 _) rfl
theorem d_Mr_readRow_180 : decode b_Mr_readRow 180 = .ok (.iload_n 1, 1) := dk_0 a_Mr_readRow_180 (dko_27 _)
theorem d_Mr_readRow_181 : decode b_Mr_readRow 181 = .ok (.aload_n 0, 1) := dk_0 a_Mr_readRow_181 (dko_42 _)
theorem d_Mr_readRow_182 : decode b_Mr_readRow 182 = .ok (.invokevirtual 111, 3) := dk_U2 a_Mr_readRow_182 (dko_182 _) rfl
theorem d_Mr_readRow_185 : decode b_Mr_readRow 185 = .ok (.iastore, 1) := dk_0 a_Mr_readRow_185 (dko_79 _)
theorem d_Mr_readRow_186 : decode b_Mr_readRow 186 = .ok (.aload_n 0, 1) := dk_0 a_Mr_readRow_186 (dko_42 _)
theorem d_Mr_readRow_187 : decode b_Mr_readRow 187 = .ok (.getfield 31, 3) := dk_U2 a_Mr_readRow_187 (dko_180 _) rfl
theorem d_Mr_readRow_190 : decode b_Mr_readRow 190 = .ok (.iload_n 1, 1) := dk_0 a_Mr_readRow_190 (dko_27 _)
theorem d_Mr_readRow_191 : decode b_Mr_readRow 191 = .ok (.iaload, 1) := dk_0 a_Mr_readRow_191 (dko_46 _)
theorem d_Mr_readRow_192 : decode b_Mr_readRow 192 = .ok (.ifCond .ge 5, 3) := dk_S2 a_Mr_readRow_192 (dko_156 _) (by decide +kernel)
theorem d_Mr_readRow_195 : decode b_Mr_readRow 195 = .ok (.iconst 0, 1) := dk_0 a_Mr_readRow_195 (dko_3 _)
theorem d_Mr_readRow_196 : decode b_Mr_readRow 196 = .ok (.ireturn, 1) := dk_0 a_Mr_readRow_196 (dko_172 _)
theorem d_Mr_readRow_197 : decode b_Mr_readRow 197 = .ok (.aload_n 0, 1) := dk_0 a_Mr_readRow_197 (dko_42 _)
theorem d_Mr_readRow_198 : decode b_Mr_readRow 198 = .ok (.getfield 47, 3) := dk_U2 a_Mr_readRow_198 (dko_180 _) rfl
theorem d_Mr_readRow_201 : decode b_Mr_readRow 201 = .ok (.iload_n 1, 1) := dk_0 a_Mr_readRow_201 (dko_27 _)
theorem d_Mr_readRow_202 : decode b_Mr_readRow 202 = .ok (.aload_n 0, 1) := dk_0 a_Mr_readRow_202 (dko_42 _)
theorem d_Mr_readRow_203 : decode b_Mr_readRow 203 = .ok (.getfield 117, 3) := dk_U2 a_Mr_readRow_203 (dko_180 _) rfl
theorem d_Mr_readRow_206 : decode b_Mr_readRow 206 = .ok (.iastore, 1) := dk_0 a_Mr_readRow_206 (dko_79 _)
theorem d_Mr_readRow_207 : decode b_Mr_readRow 207 = .ok (.aload_n 0, 1) := dk_0 a_Mr_readRow_207 (dko_42 _)
theorem d_Mr_readRow_208 : decode b_Mr_readRow 208 = .ok (.getfield 40, 3) := dk_U2 a_Mr_readRow_208 (dko_180 _) rfl
theorem d_Mr_readRow_211 : decode b_Mr_readRow 211 = .ok (.iload_n 1, 1) := dk_0 a_Mr_readRow_211 (dko_27 _)
theorem d_Mr_readRow_212 : decode b_Mr_readRow 212 = .ok (.iconst 0, 1) := dk_0 a_Mr_readRow_212 (dko_3 _)
theorem d_Mr_readRow_213 : decode b_Mr_readRow 213 = .ok (.iastore, 1) := dk_0 a_Mr_readRow_213 (dko_79 _)
theorem d_Mr_readRow_214 : decode b_Mr_readRow 214 = .ok (.aload_n 0, 1) := dk_0 a_Mr_readRow_214 (dko_42 _)
theorem d_Mr_readRow_215 : decode b_Mr_readRow 215 = .ok (.bipush 102, 2) := dk_S1 a_Mr_readRow_215 (dko_16 _) (by decide +kernel)
theorem d_Mr_readRow_217 : decode b_Mr_readRow 217 = .ok (.bipush 111, 2) := dk_S1 a_Mr_readRow_217 (dko_16 _) (by decide +kernel)
theorem d_Mr_readRow_219 : decode b_Mr_readRow 219 = .ok (.bipush 114, 2) := dk_S1 a_Mr_readRow_219 (dko_16 _) (by decide +kernel)
theorem d_Mr_readRow_221 : decode b_Mr_readRow 221 = .ok (.iconst 0, 1) := dk_0 a_Mr_readRow_221 (dko_3 _)
theorem d_Mr_readRow_222 : decode b_Mr_readRow 222 = .ok (.iconst 0, 1) := dk_0 a_Mr_readRow_222 (dko_3 _)
theorem d_Mr_readRow_223 : decode b_Mr_readRow 223 = .ok (.iconst 0, 1) := dk_0 a_Mr_readRow_223 (dko_3 _)
theorem d_Mr_readRow_224 : decode b_Mr_readRow 224 = .ok (.iconst 0, 1) := dk_0 a_Mr_readRow_224 (dko_3 _)
theorem d_Mr_readRow_225 : decode b_Mr_readRow 225 = .ok (.iconst 3, 1) := dk_0 a_Mr_readRow_225 (dko_6 _)
theorem d_Mr_readRow_226 : decode b_Mr_readRow 226 = .ok (.invokevirtual 94, 3) := dk_U2 a_Mr_readRow_226 (dko_182 _) rfl
theorem d_Mr_readRow_229 : decode b_Mr_readRow 229 = .ok (.ifCond .eq 48, 3) := dk_S2 a_Mr_readRow_229 (dko_153 _) (by decide +kernel)
theorem d_Mr_readRow_232 : decode b_Mr_readRow 232 = .ok (.aload_n 0, 1) := dk_0 a_Mr_readRow_232 (dko_42 _)
theorem d_Mr_readRow_233 : decode b_Mr_readRow 233 = .ok (.dup, 1) := dk_0 a_Mr_readRow_233 (dko_89 _)
theorem d_Mr_readRow_234 : decode b_Mr_readRow 234 = .ok (.getfield 70, 3) := dk_U2 a_Mr_readRow_234 (dko_180 _) rfl
theorem d_Mr_readRow_237 : decode b_Mr_readRow 237 = .ok (.iconst 1, 1) := dk_0 a_Mr_readRow_237 (dko_4 _)
theorem d_Mr_readRow_238 : decode b_Mr_readRow 238 = .ok (.iadd, 1) := dk_0 a_Mr_readRow_238 (dko_96 _)
theorem d_Mr_readRow_239 : decode b_Mr_readRow 239 = .ok (.putfield 70, 3) := dk_U2 a_Mr_readRow_239 (dko_181 _) rfl
theorem d_Mr_readRow_242 : decode b_Mr_readRow 242 = .ok (.aload_n 0, 1) := dk_0 a_Mr_readRow_242 (dko_42 _)
theorem d_Mr_readRow_243 : decode b_Mr_readRow 243 = .ok (.iconst 0, 1) := dk_0 a_Mr_readRow_243 (dko_3 _)
theorem d_Mr_readRow_244 : decode b_Mr_readRow 244 = .ok (.sipush 3600, 3) := dk_S2 a_Mr_readRow_244 (dko_17 _) (by decide +kernel)
theorem d_Mr_readRow_247 : decode b_Mr_readRow 247 = .ok (.invokevirtual 81, 3) := dk_U2 a_Mr_readRow_247 (dko_182 _) rfl
theorem d_Mr_readRow_250 : decode b_Mr_readRow 250 = .ok (.istore 4, 2) := dk_U1 a_Mr_readRow_250 (dko_54 _) rfl
theorem d_Mr_readRow_252 : decode b_Mr_readRow 252 = .ok (.iload 4, 2) := dk_U1 a_Mr_readRow_252 (dko_21 _) rfl
theorem d_Mr_readRow_254 : decode b_Mr_readRow 254 = .ok (.ifCond .ge 5, 3) := dk_S2 a_Mr_readRow_254 (dko_156 _) (by decide +kernel)
theorem d_Mr_readRow_257 : decode b_Mr_readRow 257 = .ok (.iconst 0, 1) := dk_0 a_Mr_readRow_257 (dko_3 _)
theorem d_Mr_readRow_258 : decode b_Mr_readRow 258 = .ok (.ireturn, 1) := dk_0 a_Mr_readRow_258 (dko_172 _)
theorem d_Mr_readRow_259 : decode b_Mr_readRow 259 = .ok (.aload_n 0, 1) := dk_0 a_Mr_readRow_259 (dko_42 _)
theorem d_Mr_readRow_260 : decode b_Mr_readRow 260 = .ok (.getfield 40, 3) := dk_U2 a_Mr_readRow_260 (dko_180 _) rfl
theorem d_Mr_readRow_263 : decode b_Mr_readRow 263 = .ok (.iload_n 1, 1) := dk_0 a_Mr_readRow_263 (dko_27 _)
theorem d_Mr_readRow_264 : decode b_Mr_readRow 264 = .ok (.iload 4, 2) := dk_U1 a_Mr_readRow_264 (dko_21 _) rfl
theorem d_Mr_readRow_266 : decode b_Mr_readRow 266 = .ok (.iastore, 1) := dk_0 a_Mr_readRow_266 (dko_79 _)
theorem d_Mr_readRow_267 : decode b_Mr_readRow 267 = .ok (.aload_n 0, 1) := dk_0 a_Mr_readRow_267 (dko_42 _)
theorem d_Mr_readRow_268 : decode b_Mr_readRow 268 = .ok (.dup, 1) := dk_0 a_Mr_readRow_268 (dko_89 _)
theorem d_Mr_readRow_269 : decode b_Mr_readRow 269 = .ok (.getfield 70, 3) := dk_U2 a_Mr_readRow_269 (dko_180 _) rfl
theorem d_Mr_readRow_272 : decode b_Mr_readRow 272 = .ok (.iconst 1, 1) := dk_0 a_Mr_readRow_272 (dko_4 _)
theorem d_Mr_readRow_273 : decode b_Mr_readRow 273 = .ok (.iadd, 1) := dk_0 a_Mr_readRow_273 (dko_96 _)
theorem d_Mr_readRow_274 : decode b_Mr_readRow 274 = .ok (.putfield 70, 3) := dk_U2 a_Mr_readRow_274 (dko_181 _) rfl
theorem d_Mr_readRow_277 : decode b_Mr_readRow 277 = .ok (.aload_n 0, 1) := dk_0 a_Mr_readRow_277 (dko_42 _)
theorem d_Mr_readRow_278 : decode b_Mr_readRow 278 = .ok (.getfield 43, 3) := dk_U2 a_Mr_readRow_278 (dko_180 _) rfl
theorem d_Mr_readRow_281 : decode b_Mr_readRow 281 = .ok (.iload_n 1, 1) := dk_0 a_Mr_readRow_281 (dko_27 _)
theorem d_Mr_readRow_282 : decode b_Mr_readRow 282 = .ok (.aload_n 0, 1) := dk_0 a_Mr_readRow_282 (dko_42 _)
theorem d_Mr_readRow_283 : decode b_Mr_readRow 283 = .ok (.bipush 108, 2) := dk_S1 a_Mr_readRow_283 (dko_16 _) (by decide +kernel)
theorem d_Mr_readRow_285 : decode b_Mr_readRow 285 = .ok (.bipush 97, 2) := dk_S1 a_Mr_readRow_285 (dko_16 _) (by decide +kernel)
theorem d_Mr_readRow_287 : decode b_Mr_readRow 287 = .ok (.bipush 116, 2) := dk_S1 a_Mr_readRow_287 (dko_16 _) (by decide +kernel)
theorem d_Mr_readRow_289 : decode b_Mr_readRow 289 = .ok (.bipush 99, 2) := dk_S1 a_Mr_readRow_289 (dko_16 _) (by decide +kernel)
theorem d_Mr_readRow_291 : decode b_Mr_readRow 291 = .ok (.bipush 104, 2) := dk_S1 a_Mr_readRow_291 (dko_16 _) (by decide +kernel)
theorem d_Mr_readRow_293 : decode b_Mr_readRow 293 = .ok (.bipush 101, 2) := dk_S1 a_Mr_readRow_293 (dko_16 _) (by decide +kernel)
theorem d_Mr_readRow_295 : decode b_Mr_readRow 295 = .ok (.bipush 100, 2) := dk_S1 a_Mr_readRow_295 (dko_16 _) (by decide +kernel)
theorem d_Mr_readRow_297 : decode b_Mr_readRow 297 = .ok (.bipush 7, 2) := dk_S1 a_Mr_readRow_297 (dko_16 _) (by decide +kernel)
theorem d_Mr_readRow_299 : decode b_Mr_readRow 299 = .ok (.invokevirtual 94, 3) := dk_U2 a_Mr_readRow_299 (dko_182 _) rfl
theorem d_Mr_readRow_302 : decode b_Mr_readRow 302 = .ok (.bastore, 1) := dk_0 a_Mr_readRow_302 (dko_84 _)
theorem d_Mr_readRow_303 : decode b_Mr_readRow 303 = .ok (.aload_n 0, 1) := dk_0 a_Mr_readRow_303 (dko_42 _)
theorem d_Mr_readRow_304 : decode b_Mr_readRow 304 = .ok (.dup, 1) := dk_0 a_Mr_readRow_304 (dko_89 _)
theorem d_Mr_readRow_305 : decode b_Mr_readRow 305 = .ok (.getfield 70, 3) := dk_U2 a_Mr_readRow_305 (dko_180 _) rfl
theorem d_Mr_readRow_308 : decode b_Mr_readRow 308 = .ok (.aload_n 0, 1) := dk_0 a_Mr_readRow_308 (dko_42 _)
theorem d_Mr_readRow_309 : decode b_Mr_readRow 309 = .ok (.getfield 43, 3) := dk_U2 a_Mr_readRow_309 (dko_180 _) rfl
theorem d_Mr_readRow_312 : decode b_Mr_readRow 312 = .ok (.iload_n 1, 1) := dk_0 a_Mr_readRow_312 (dko_27 _)
theorem d_Mr_readRow_313 : decode b_Mr_readRow 313 = .ok (.baload, 1) := dk_0 a_Mr_readRow_313 (dko_51 _)
theorem d_Mr_readRow_314 : decode b_Mr_readRow 314 = .ok (.ifCond .eq 7, 3) := dk_S2 a_Mr_readRow_314 (dko_153 _) (by decide +kernel)
theorem d_Mr_readRow_317 : decode b_Mr_readRow 317 = .ok (.iconst 1, 1) := dk_0 a_Mr_readRow_317 (dko_4 _)
theorem d_Mr_readRow_318 : decode b_Mr_readRow 318 = .ok (.goto 4, 3) := dk_S2 a_Mr_readRow_318 (dko_167 _) (by decide +kernel)
theorem d_Mr_readRow_321 : decode b_Mr_readRow 321 = .ok (.iconst 0, 1) := dk_0 a_Mr_readRow_321 (dko_3 _)
theorem d_Mr_readRow_322 : decode b_Mr_readRow 322 = .ok (.iadd, 1) := dk_0 a_Mr_readRow_322 (dko_96 _)
theorem d_Mr_readRow_323 : decode b_Mr_readRow 323 = .ok (.putfield 70, 3) := dk_U2 a_Mr_readRow_323 (dko_181 _) rfl
theorem d_Mr_readRow_326 : decode b_Mr_readRow 326 = .ok (.aload_n 0, 1) := dk_0 a_Mr_readRow_326 (dko_42 _)
theorem d_Mr_readRow_327 : decode b_Mr_readRow 327 = .ok (.bipush 59, 2) := dk_S1 a_Mr_readRow_327 (dko_16 _) (by decide +kernel)
theorem d_Mr_readRow_329 : decode b_Mr_readRow 329 = .ok (.invokevirtual 105, 3) := dk_U2 a_Mr_readRow_329 (dko_182 _) rfl
theorem d_Mr_readRow_332 : decode b_Mr_readRow 332 = .ok (.ifCond .ne 5, 3) := dk_S2 a_Mr_readRow_332 (dko_154 _) (by decide +kernel)
theorem d_Mr_readRow_335 : decode b_Mr_readRow 335 = .ok (.iconst 0, 1) := dk_0 a_Mr_readRow_335 (dko_3 _)
theorem d_Mr_readRow_336 : decode b_Mr_readRow 336 = .ok (.ireturn, 1) := dk_0 a_Mr_readRow_336 (dko_172 _)
theorem d_Mr_readRow_337 : decode b_Mr_readRow 337 = .ok (.aload_n 0, 1) := dk_0 a_Mr_readRow_337 (dko_42 _)
theorem d_Mr_readRow_338 : decode b_Mr_readRow 338 = .ok (.dup, 1) := dk_0 a_Mr_readRow_338 (dko_89 _)
theorem d_Mr_readRow_339 : decode b_Mr_readRow 339 = .ok (.getfield 70, 3) := dk_U2 a_Mr_readRow_339 (dko_180 _) rfl
theorem d_Mr_readRow_342 : decode b_Mr_readRow 342 = .ok (.iconst 1, 1) := dk_0 a_Mr_readRow_342 (dko_4 _)
theorem d_Mr_readRow_343 : decode b_Mr_readRow 343 = .ok (.iadd, 1) := dk_0 a_Mr_readRow_343 (dko_96 _)
theorem d_Mr_readRow_344 : decode b_Mr_readRow 344 = .ok (.putfield 70, 3) := dk_U2 a_Mr_readRow_344 (dko_181 _) rfl
theorem d_Mr_readRow_347 : decode b_Mr_readRow 347 = .ok (.aload_n 0, 1) := dk_0 a_Mr_readRow_347 (dko_42 _)
theorem d_Mr_readRow_348 : decode b_Mr_readRow 348 = .ok (.dup, 1) := dk_0 a_Mr_readRow_348 (dko_89 _)
theorem d_Mr_readRow_349 : decode b_Mr_readRow 349 = .ok (.getfield 120, 3) := dk_U2 a_Mr_readRow_349 (dko_180 _) rfl
theorem d_Mr_readRow_352 : decode b_Mr_readRow 352 = .ok (.iconst 1, 1) := dk_0 a_Mr_readRow_352 (dko_4 _)
theorem d_Mr_readRow_353 : decode b_Mr_readRow 353 = .ok (.iadd, 1) := dk_0 a_Mr_readRow_353 (dko_96 _)
theorem d_Mr_readRow_354 : decode b_Mr_readRow 354 = .ok (.putfield 120, 3) := dk_U2 a_Mr_readRow_354 (dko_181 _) rfl
theorem d_Mr_readRow_357 : decode b_Mr_readRow 357 = .ok (.iconst 1, 1) := dk_0 a_Mr_readRow_357 (dko_4 _)
theorem d_Mr_readRow_358 : decode b_Mr_readRow 358 = .ok (.ireturn, 1) := dk_0 a_Mr_readRow_358 (dko_172 _)
set_option maxHeartbeats 4000000 in
set_option maxRecDepth 100000 in
theorem ok_Mr_readRow (pc : Nat) : OpS mt mi_Mr_readRow pc (cs_Mr_readRow pc) := (os_n (os_n (os_n (os_n (os_n (os_n (os_n (os_l (so_bipush d_Mr_readRow_0 (by decide))) (os_n (os_l (so_iconst d_Mr_readRow_2 (by decide))) (os_l (so_aload_n d_Mr_readRow_3 rfl)))) (os_n (os_l (so_get (C := R_Mr) (T := F_Mr) (N := 25) (j := 12) in_Mr rfl (by decide) mw_1724 d_Mr_readRow_4)) (os_n (os_l (so_isub d_Mr_readRow_7)) (os_l (so_imul d_Mr_readRow_8))))) (os_n (os_n (os_l (so_aload_n d_Mr_readRow_9 rfl)) (os_n (os_l (so_get (C := R_Mr) (T := F_Mr) (N := 25) (j := 13) in_Mr rfl (by decide) mw_1725 d_Mr_readRow_10)) (os_l (so_iadd d_Mr_readRow_13)))) (os_n (os_n (os_l (so_istore_n d_Mr_readRow_14 rfl (by decide))) (os_l (so_aload_n d_Mr_readRow_15 rfl))) (os_n (os_l (so_dup d_Mr_readRow_16)) (os_l (so_get (C := R_Mr) (T := F_Mr) (N := 25) (j := 5) in_Mr rfl (by decide) mw_1717 d_Mr_readRow_17)))))) (os_n (os_n (os_n (os_l (so_iconst d_Mr_readRow_20 (by decide))) (os_n (os_l (so_iadd d_Mr_readRow_21)) (os_l (so_putI (C := R_Mr) (T := F_Mr) (N := 25) (j := 5) in_Mr t_Mr_ok n_Mr rfl (by decide) mw_1717 rfl (by decide +kernel) d_Mr_readRow_22)))) (os_n (os_l (so_iconst d_Mr_readRow_25 (by decide))) (os_n (os_l (so_istore_n d_Mr_readRow_26 rfl (by decide))) (os_l (so_iconst d_Mr_readRow_27 (by decide)))))) (os_n (os_n (os_l (so_istore_n d_Mr_readRow_28 rfl (by decide))) (os_n (os_l (so_iload_n d_Mr_readRow_29 rfl)) (os_l (so_ifeq d_Mr_readRow_30 (by decide))))) (os_n (os_n (os_l (so_aload_n d_Mr_readRow_33 rfl)) (os_l (so_callV (iv := mi_Mr_act0) rfl rfl rfl mw_2142 mw_2144 sl_102 mw_20 mw_2145 ⟨by decide +kernel, by decide +kernel, by decide +kernel⟩ (by decide) d_Mr_readRow_34))) (os_n (os_l (so_istore d_Mr_readRow_37 (by decide))) (os_l (so_iconst d_Mr_readRow_39 (by decide)))))))) (os_n (os_n (os_n (os_n (os_l (so_istore d_Mr_readRow_40 (by decide))) (os_n (os_l (so_iload d_Mr_readRow_42)) (os_l (so_iload_n d_Mr_readRow_44 rfl)))) (os_n (os_l (so_icge d_Mr_readRow_45 (by decide))) (os_n (os_l (so_aload_n d_Mr_readRow_48 rfl)) (os_l (so_get (C := R_Mr) (T := F_Mr) (N := 25) (j := 16) in_Mr rfl (by decide) mw_1728 d_Mr_readRow_49))))) (os_n (os_n (os_l (so_bipush d_Mr_readRow_52 (by decide))) (os_n (os_l (so_iload_n d_Mr_readRow_54 rfl)) (os_l (so_imul d_Mr_readRow_55)))) (os_n (os_n (os_l (so_iload d_Mr_readRow_56)) (os_l (so_iadd d_Mr_readRow_58))) (os_n (os_l (so_iaload d_Mr_readRow_59)) (os_l (so_iload d_Mr_readRow_60)))))) (os_n (os_n (os_n (os_l (so_icne d_Mr_readRow_62 (by decide))) (os_n (os_l (so_iconst d_Mr_readRow_65 (by decide))) (os_l (so_goto d_Mr_readRow_66 (by decide))))) (os_n (os_l (so_iload d_Mr_readRow_69)) (os_n (os_l (so_istore d_Mr_readRow_71 (by decide))) (os_l (so_iinc d_Mr_readRow_73 (by decide) (by decide)))))) (os_n (os_n (os_l (so_goto d_Mr_readRow_76 (by decide))) (os_n (os_l (so_iload d_Mr_readRow_79)) (os_l (so_iflt d_Mr_readRow_81 (by decide))))) (os_n (os_n (os_l (so_iload_n d_Mr_readRow_84 rfl)) (os_l (so_bipush d_Mr_readRow_85 (by decide)))) (os_n (os_l (so_icne d_Mr_readRow_87 (by decide))) (os_l (so_iconst d_Mr_readRow_90 (by decide))))))))) (os_n (os_n (os_n (os_n (os_n (os_l (so_istore_n d_Mr_readRow_91 rfl (by decide))) (os_n (os_l (so_goto d_Mr_readRow_92 (by decide))) (os_l (so_aload_n d_Mr_readRow_95 rfl)))) (os_n (os_l (so_get (C := R_Mr) (T := F_Mr) (N := 25) (j := 16) in_Mr rfl (by decide) mw_1728 d_Mr_readRow_96)) (os_n (os_l (so_bipush d_Mr_readRow_99 (by decide))) (os_l (so_iload_n d_Mr_readRow_101 rfl))))) (os_n (os_n (os_l (so_imul d_Mr_readRow_102)) (os_n (os_l (so_iload_n d_Mr_readRow_103 rfl)) (os_l (so_iadd d_Mr_readRow_104)))) (os_n (os_n (os_l (so_iload d_Mr_readRow_105)) (os_l (so_iastore d_Mr_readRow_107))) (os_n (os_l (so_iinc d_Mr_readRow_108 (by decide) (by decide))) (os_l (so_aload_n d_Mr_readRow_111 rfl)))))) (os_n (os_n (os_n (os_l (so_dup d_Mr_readRow_112)) (os_n (os_l (so_get (C := R_Mr) (T := F_Mr) (N := 25) (j := 5) in_Mr rfl (by decide) mw_1717 d_Mr_readRow_113)) (os_l (so_iconst d_Mr_readRow_116 (by decide))))) (os_n (os_l (so_iadd d_Mr_readRow_117)) (os_n (os_l (so_putI (C := R_Mr) (T := F_Mr) (N := 25) (j := 5) in_Mr t_Mr_ok n_Mr rfl (by decide) mw_1717 rfl (by decide +kernel) d_Mr_readRow_118)) (os_l (so_goto d_Mr_readRow_121 (by decide)))))) (os_n (os_n (os_l (so_iload_n d_Mr_readRow_124 rfl)) (os_n (os_l (so_ifeq d_Mr_readRow_125 (by decide))) (os_l (so_aload_n d_Mr_readRow_128 rfl)))) (os_n (os_n (os_l (so_bipush d_Mr_readRow_129 (by decide))) (os_l (so_bipush d_Mr_readRow_131 (by decide)))) (os_n (os_l (so_bipush d_Mr_readRow_133 (by decide))) (os_l (so_bipush d_Mr_readRow_135 (by decide)))))))) (os_n (os_n (os_n (os_n (os_l (so_iconst d_Mr_readRow_137 (by decide))) (os_n (os_l (so_iconst d_Mr_readRow_138 (by decide))) (os_l (so_iconst d_Mr_readRow_139 (by decide))))) (os_n (os_l (so_iconst d_Mr_readRow_140 (by decide))) (os_n (os_l (so_callV (iv := mi_Mr_is) rfl rfl rfl mw_2126 mw_2128 sl_98 mw_20 mw_2129 ⟨by decide +kernel, by decide +kernel, by decide +kernel⟩ (by decide) d_Mr_readRow_141)) (os_l (so_ifne d_Mr_readRow_144 (by decide)))))) (os_n (os_n (os_l (so_iconst d_Mr_readRow_147 (by decide))) (os_n (os_l (so_zreturn rfl d_Mr_readRow_148)) (os_l (so_aload_n d_Mr_readRow_149 rfl)))) (os_n (os_n (os_l (so_get (C := R_Mr) (T := F_Mr) (N := 25) (j := 15) in_Mr rfl (by decide) mw_1727 d_Mr_readRow_150)) (os_l (so_iload_n d_Mr_readRow_153 rfl))) (os_n (os_l (so_iload_n d_Mr_readRow_154 rfl)) (os_l (so_iastore d_Mr_readRow_155)))))) (os_n (os_n (os_n (os_l (so_aload_n d_Mr_readRow_156 rfl)) (os_n (os_l (so_dup d_Mr_readRow_157)) (os_l (so_get (C := R_Mr) (T := F_Mr) (N := 25) (j := 5) in_Mr rfl (by decide) mw_1717 d_Mr_readRow_158)))) (os_n (os_n (os_l (so_iconst d_Mr_readRow_161 (by decide))) (os_l (so_iadd d_Mr_readRow_162))) (os_n (os_l (so_putI (C := R_Mr) (T := F_Mr) (N := 25) (j := 5) in_Mr t_Mr_ok n_Mr rfl (by decide) mw_1717 rfl (by decide +kernel) d_Mr_readRow_163)) (os_l (so_aload_n d_Mr_readRow_166 rfl))))) (os_n (os_n (os_l (so_iconst d_Mr_readRow_167 (by decide))) (os_n (os_l (so_putI (C := R_Mr) (T := F_Mr) (N := 25) (j := 6) in_Mr t_Mr_ok n_Mr rfl (by decide) mw_1718 rfl (by decide +kernel) d_Mr_readRow_168)) (os_l (so_aload_n d_Mr_readRow_171 rfl)))) (os_n (os_n (os_l (so_iconst d_Mr_readRow_172 (by decide))) (os_l (so_putI (C := R_Mr) (T := F_Mr) (N := 25) (j := 7) in_Mr t_Mr_ok n_Mr rfl (by decide) mw_1719 rfl (by decide +kernel) d_Mr_readRow_173))) (os_n (os_l (so_aload_n d_Mr_readRow_176 rfl)) (os_l (so_get (C := R_Mr) (T := F_Mr) (N := 25) (j := 14) in_Mr rfl (by decide) mw_1726 d_Mr_readRow_177))))))))) (os_n (os_n (os_n (os_n (os_n (os_n (os_l (so_iload_n d_Mr_readRow_180 rfl)) (os_n (os_l (so_aload_n d_Mr_readRow_181 rfl)) (os_l (so_callV (iv := mi_Mr_or) rfl rfl rfl mw_2150 mw_2152 sl_104 mw_20 mw_2153 ⟨by decide +kernel, by decide +kernel, by decide +kernel⟩ (by decide) d_Mr_readRow_182)))) (os_n (os_l (so_iastore d_Mr_readRow_185)) (os_n (os_l (so_aload_n d_Mr_readRow_186 rfl)) (os_l (so_get (C := R_Mr) (T := F_Mr) (N := 25) (j := 14) in_Mr rfl (by decide) mw_1726 d_Mr_readRow_187))))) (os_n (os_n (os_l (so_iload_n d_Mr_readRow_190 rfl)) (os_n (os_l (so_iaload d_Mr_readRow_191)) (os_l (so_ifge d_Mr_readRow_192 (by decide))))) (os_n (os_n (os_l (so_iconst d_Mr_readRow_195 (by decide))) (os_l (so_zreturn rfl d_Mr_readRow_196))) (os_n (os_l (so_aload_n d_Mr_readRow_197 rfl)) (os_l (so_get (C := R_Mr) (T := F_Mr) (N := 25) (j := 19) in_Mr rfl (by decide) mw_1731 d_Mr_readRow_198)))))) (os_n (os_n (os_n (os_l (so_iload_n d_Mr_readRow_201 rfl)) (os_n (os_l (so_aload_n d_Mr_readRow_202 rfl)) (os_l (so_get (C := R_Mr) (T := F_Mr) (N := 25) (j := 7) in_Mr rfl (by decide) mw_1719 d_Mr_readRow_203)))) (os_n (os_l (so_iastore d_Mr_readRow_206)) (os_n (os_l (so_aload_n d_Mr_readRow_207 rfl)) (os_l (so_get (C := R_Mr) (T := F_Mr) (N := 25) (j := 17) in_Mr rfl (by decide) mw_1729 d_Mr_readRow_208))))) (os_n (os_n (os_l (so_iload_n d_Mr_readRow_211 rfl)) (os_n (os_l (so_iconst d_Mr_readRow_212 (by decide))) (os_l (so_iastore d_Mr_readRow_213)))) (os_n (os_n (os_l (so_aload_n d_Mr_readRow_214 rfl)) (os_l (so_bipush d_Mr_readRow_215 (by decide)))) (os_n (os_l (so_bipush d_Mr_readRow_217 (by decide))) (os_l (so_bipush d_Mr_readRow_219 (by decide)))))))) (os_n (os_n (os_n (os_n (os_l (so_iconst d_Mr_readRow_221 (by decide))) (os_n (os_l (so_iconst d_Mr_readRow_222 (by decide))) (os_l (so_iconst d_Mr_readRow_223 (by decide))))) (os_n (os_l (so_iconst d_Mr_readRow_224 (by decide))) (os_n (os_l (so_iconst d_Mr_readRow_225 (by decide))) (os_l (so_callV (iv := mi_Mr_is) rfl rfl rfl mw_2126 mw_2128 sl_98 mw_20 mw_2129 ⟨by decide +kernel, by decide +kernel, by decide +kernel⟩ (by decide) d_Mr_readRow_226))))) (os_n (os_n (os_l (so_ifeq d_Mr_readRow_229 (by decide))) (os_n (os_l (so_aload_n d_Mr_readRow_232 rfl)) (os_l (so_dup d_Mr_readRow_233)))) (os_n (os_n (os_l (so_get (C := R_Mr) (T := F_Mr) (N := 25) (j := 5) in_Mr rfl (by decide) mw_1717 d_Mr_readRow_234)) (os_l (so_iconst d_Mr_readRow_237 (by decide)))) (os_n (os_l (so_iadd d_Mr_readRow_238)) (os_l (so_putI (C := R_Mr) (T := F_Mr) (N := 25) (j := 5) in_Mr t_Mr_ok n_Mr rfl (by decide) mw_1717 rfl (by decide +kernel) d_Mr_readRow_239)))))) (os_n (os_n (os_n (os_l (so_aload_n d_Mr_readRow_242 rfl)) (os_n (os_l (so_iconst d_Mr_readRow_243 (by decide))) (os_l (so_sipush d_Mr_readRow_244 (by decide))))) (os_n (os_n (os_l (so_callV (iv := mi_Mr_number) rfl rfl rfl mw_2146 mw_2148 sl_103 mw_20 mw_2149 ⟨by decide +kernel, by decide +kernel, by decide +kernel⟩ (by decide) d_Mr_readRow_247)) (os_l (so_istore d_Mr_readRow_250 (by decide)))) (os_n (os_l (so_iload d_Mr_readRow_252)) (os_l (so_ifge d_Mr_readRow_254 (by decide)))))) (os_n (os_n (os_l (so_iconst d_Mr_readRow_257 (by decide))) (os_n (os_l (so_zreturn rfl d_Mr_readRow_258)) (os_l (so_aload_n d_Mr_readRow_259 rfl)))) (os_n (os_n (os_l (so_get (C := R_Mr) (T := F_Mr) (N := 25) (j := 17) in_Mr rfl (by decide) mw_1729 d_Mr_readRow_260)) (os_l (so_iload_n d_Mr_readRow_263 rfl))) (os_n (os_l (so_iload d_Mr_readRow_264)) (os_l (so_iastore d_Mr_readRow_266)))))))) (os_n (os_n (os_n (os_n (os_n (os_l (so_aload_n d_Mr_readRow_267 rfl)) (os_n (os_l (so_dup d_Mr_readRow_268)) (os_l (so_get (C := R_Mr) (T := F_Mr) (N := 25) (j := 5) in_Mr rfl (by decide) mw_1717 d_Mr_readRow_269)))) (os_n (os_l (so_iconst d_Mr_readRow_272 (by decide))) (os_n (os_l (so_iadd d_Mr_readRow_273)) (os_l (so_putI (C := R_Mr) (T := F_Mr) (N := 25) (j := 5) in_Mr t_Mr_ok n_Mr rfl (by decide) mw_1717 rfl (by decide +kernel) d_Mr_readRow_274))))) (os_n (os_n (os_l (so_aload_n d_Mr_readRow_277 rfl)) (os_n (os_l (so_get (C := R_Mr) (T := F_Mr) (N := 25) (j := 18) in_Mr rfl (by decide) mw_1730 d_Mr_readRow_278)) (os_l (so_iload_n d_Mr_readRow_281 rfl)))) (os_n (os_n (os_l (so_aload_n d_Mr_readRow_282 rfl)) (os_l (so_bipush d_Mr_readRow_283 (by decide)))) (os_n (os_l (so_bipush d_Mr_readRow_285 (by decide))) (os_l (so_bipush d_Mr_readRow_287 (by decide))))))) (os_n (os_n (os_n (os_l (so_bipush d_Mr_readRow_289 (by decide))) (os_n (os_l (so_bipush d_Mr_readRow_291 (by decide))) (os_l (so_bipush d_Mr_readRow_293 (by decide))))) (os_n (os_l (so_bipush d_Mr_readRow_295 (by decide))) (os_n (os_l (so_bipush d_Mr_readRow_297 (by decide))) (os_l (so_callV (iv := mi_Mr_is) rfl rfl rfl mw_2126 mw_2128 sl_98 mw_20 mw_2129 ⟨by decide +kernel, by decide +kernel, by decide +kernel⟩ (by decide) d_Mr_readRow_299))))) (os_n (os_n (os_l (so_bastore d_Mr_readRow_302)) (os_n (os_l (so_aload_n d_Mr_readRow_303 rfl)) (os_l (so_dup d_Mr_readRow_304)))) (os_n (os_n (os_l (so_get (C := R_Mr) (T := F_Mr) (N := 25) (j := 5) in_Mr rfl (by decide) mw_1717 d_Mr_readRow_305)) (os_l (so_aload_n d_Mr_readRow_308 rfl))) (os_n (os_l (so_get (C := R_Mr) (T := F_Mr) (N := 25) (j := 18) in_Mr rfl (by decide) mw_1730 d_Mr_readRow_309)) (os_l (so_iload_n d_Mr_readRow_312 rfl))))))) (os_n (os_n (os_n (os_n (os_l (so_baload d_Mr_readRow_313)) (os_n (os_l (so_ifeq d_Mr_readRow_314 (by decide))) (os_l (so_iconst d_Mr_readRow_317 (by decide))))) (os_n (os_l (so_goto d_Mr_readRow_318 (by decide))) (os_n (os_l (so_iconst d_Mr_readRow_321 (by decide))) (os_l (so_iadd d_Mr_readRow_322))))) (os_n (os_n (os_l (so_putI (C := R_Mr) (T := F_Mr) (N := 25) (j := 5) in_Mr t_Mr_ok n_Mr rfl (by decide) mw_1717 rfl (by decide +kernel) d_Mr_readRow_323)) (os_n (os_l (so_aload_n d_Mr_readRow_326 rfl)) (os_l (so_bipush d_Mr_readRow_327 (by decide))))) (os_n (os_n (os_l (so_callV (iv := mi_Mr_isOne) rfl rfl rfl mw_2162 mw_2164 sl_107 mw_20 mw_2165 ⟨by decide +kernel, by decide +kernel, by decide +kernel⟩ (by decide) d_Mr_readRow_329)) (os_l (so_ifne d_Mr_readRow_332 (by decide)))) (os_n (os_l (so_iconst d_Mr_readRow_335 (by decide))) (os_l (so_zreturn rfl d_Mr_readRow_336)))))) (os_n (os_n (os_n (os_l (so_aload_n d_Mr_readRow_337 rfl)) (os_n (os_l (so_dup d_Mr_readRow_338)) (os_l (so_get (C := R_Mr) (T := F_Mr) (N := 25) (j := 5) in_Mr rfl (by decide) mw_1717 d_Mr_readRow_339)))) (os_n (os_n (os_l (so_iconst d_Mr_readRow_342 (by decide))) (os_l (so_iadd d_Mr_readRow_343))) (os_n (os_l (so_putI (C := R_Mr) (T := F_Mr) (N := 25) (j := 5) in_Mr t_Mr_ok n_Mr rfl (by decide) mw_1717 rfl (by decide +kernel) d_Mr_readRow_344)) (os_l (so_aload_n d_Mr_readRow_347 rfl))))) (os_n (os_n (os_l (so_dup d_Mr_readRow_348)) (os_n (os_l (so_get (C := R_Mr) (T := F_Mr) (N := 25) (j := 13) in_Mr rfl (by decide) mw_1725 d_Mr_readRow_349)) (os_l (so_iconst d_Mr_readRow_352 (by decide))))) (os_n (os_n (os_l (so_iadd d_Mr_readRow_353)) (os_l (so_putI (C := R_Mr) (T := F_Mr) (N := 25) (j := 13) in_Mr t_Mr_ok n_Mr rfl (by decide) mw_1725 rfl (by decide +kernel) d_Mr_readRow_354))) (os_n (os_l (so_iconst d_Mr_readRow_357 (by decide))) (os_l (so_zreturn rfl d_Mr_readRow_358))))))))))
abbrev t_Mr_read_154 : List UInt8 := 172 :: []
abbrev t_Mr_read_151 : List UInt8 := 180 :: 0 :: 133 :: t_Mr_read_154
abbrev t_Mr_read_150 : List UInt8 := 42 :: t_Mr_read_151
abbrev t_Mr_read_147 : List UInt8 := 167 :: 255 :: 224 :: t_Mr_read_150
abbrev t_Mr_read_144 : List UInt8 := 132 :: 2 :: 1 :: t_Mr_read_147
abbrev t_Mr_read_143 : List UInt8 := 79 :: t_Mr_read_144
abbrev t_Mr_read_142 : List UInt8 := 3 :: t_Mr_read_143
abbrev t_Mr_read_141 : List UInt8 := 28 :: t_Mr_read_142
abbrev t_Mr_read_138 : List UInt8 := 180 :: 0 :: 56 :: t_Mr_read_141
abbrev t_Mr_read_137 : List UInt8 := 42 :: t_Mr_read_138
abbrev t_Mr_read_136 : List UInt8 := 84 :: t_Mr_read_137
abbrev t_Mr_read_135 : List UInt8 := 3 :: t_Mr_read_136
abbrev t_Mr_read_134 : List UInt8 := 28 :: t_Mr_read_135
abbrev t_Mr_read_131 : List UInt8 := 180 :: 0 :: 53 :: t_Mr_read_134
abbrev t_Mr_read_130 : List UInt8 := 42 :: t_Mr_read_131
abbrev t_Mr_read_129 : List UInt8 := 79 :: t_Mr_read_130
abbrev t_Mr_read_128 : List UInt8 := 3 :: t_Mr_read_129
abbrev t_Mr_read_127 : List UInt8 := 28 :: t_Mr_read_128
abbrev t_Mr_read_124 : List UInt8 := 180 :: 0 :: 50 :: t_Mr_read_127
abbrev t_Mr_read_123 : List UInt8 := 42 :: t_Mr_read_124
abbrev t_Mr_read_120 : List UInt8 := 162 :: 0 :: 30 :: t_Mr_read_123
abbrev t_Mr_read_117 : List UInt8 := 180 :: 0 :: 133 :: t_Mr_read_120
abbrev t_Mr_read_116 : List UInt8 := 42 :: t_Mr_read_117
abbrev t_Mr_read_115 : List UInt8 := 28 :: t_Mr_read_116
abbrev t_Mr_read_114 : List UInt8 := 61 :: t_Mr_read_115
abbrev t_Mr_read_113 : List UInt8 := 3 :: t_Mr_read_114
abbrev t_Mr_read_110 : List UInt8 := 181 :: 0 :: 133 :: t_Mr_read_113
abbrev t_Mr_read_107 : List UInt8 := 180 :: 0 :: 120 :: t_Mr_read_110
abbrev t_Mr_read_106 : List UInt8 := 42 :: t_Mr_read_107
abbrev t_Mr_read_105 : List UInt8 := 42 :: t_Mr_read_106
abbrev t_Mr_read_102 : List UInt8 := 181 :: 0 :: 85 :: t_Mr_read_105
abbrev t_Mr_read_101 : List UInt8 := 100 :: t_Mr_read_102
abbrev t_Mr_read_98 : List UInt8 := 180 :: 0 :: 85 :: t_Mr_read_101
abbrev t_Mr_read_97 : List UInt8 := 42 :: t_Mr_read_98
abbrev t_Mr_read_96 : List UInt8 := 4 :: t_Mr_read_97
abbrev t_Mr_read_95 : List UInt8 := 42 :: t_Mr_read_96
abbrev t_Mr_read_94 : List UInt8 := 172 :: t_Mr_read_95
abbrev t_Mr_read_93 : List UInt8 := 100 :: t_Mr_read_94
abbrev t_Mr_read_90 : List UInt8 := 180 :: 0 :: 70 :: t_Mr_read_93
abbrev t_Mr_read_89 : List UInt8 := 42 :: t_Mr_read_90
abbrev t_Mr_read_88 : List UInt8 := 2 :: t_Mr_read_89
abbrev t_Mr_read_85 : List UInt8 := 154 :: 0 :: 10 :: t_Mr_read_88
abbrev t_Mr_read_84 : List UInt8 := 27 :: t_Mr_read_85
abbrev t_Mr_read_81 : List UInt8 := 167 :: 255 :: 201 :: t_Mr_read_84
abbrev t_Mr_read_80 : List UInt8 := 60 :: t_Mr_read_81
abbrev t_Mr_read_79 : List UInt8 := 3 :: t_Mr_read_80
abbrev t_Mr_read_76 : List UInt8 := 167 :: 0 :: 4 :: t_Mr_read_79
abbrev t_Mr_read_75 : List UInt8 := 4 :: t_Mr_read_76
abbrev t_Mr_read_72 : List UInt8 := 153 :: 0 :: 7 :: t_Mr_read_75
abbrev t_Mr_read_69 : List UInt8 := 182 :: 0 :: 129 :: t_Mr_read_72
abbrev t_Mr_read_68 : List UInt8 := 42 :: t_Mr_read_69
abbrev t_Mr_read_65 : List UInt8 := 162 :: 0 :: 14 :: t_Mr_read_68
abbrev t_Mr_read_63 : List UInt8 := 16 :: 40 :: t_Mr_read_65
abbrev t_Mr_read_60 : List UInt8 := 180 :: 0 :: 120 :: t_Mr_read_63
abbrev t_Mr_read_59 : List UInt8 := 42 :: t_Mr_read_60
abbrev t_Mr_read_56 : List UInt8 := 153 :: 0 :: 23 :: t_Mr_read_59
abbrev t_Mr_read_53 : List UInt8 := 182 :: 0 :: 94 :: t_Mr_read_56
abbrev t_Mr_read_52 : List UInt8 := 6 :: t_Mr_read_53
abbrev t_Mr_read_51 : List UInt8 := 3 :: t_Mr_read_52
abbrev t_Mr_read_50 : List UInt8 := 3 :: t_Mr_read_51
abbrev t_Mr_read_49 : List UInt8 := 3 :: t_Mr_read_50
abbrev t_Mr_read_48 : List UInt8 := 3 :: t_Mr_read_49
abbrev t_Mr_read_46 : List UInt8 := 16 :: 114 :: t_Mr_read_48
abbrev t_Mr_read_44 : List UInt8 := 16 :: 97 :: t_Mr_read_46
abbrev t_Mr_read_42 : List UInt8 := 16 :: 98 :: t_Mr_read_44
abbrev t_Mr_read_41 : List UInt8 := 42 :: t_Mr_read_42
abbrev t_Mr_read_38 : List UInt8 := 162 :: 0 :: 46 :: t_Mr_read_41
abbrev t_Mr_read_35 : List UInt8 := 180 :: 0 :: 63 :: t_Mr_read_38
abbrev t_Mr_read_34 : List UInt8 := 42 :: t_Mr_read_35
abbrev t_Mr_read_31 : List UInt8 := 180 :: 0 :: 70 :: t_Mr_read_34
abbrev t_Mr_read_30 : List UInt8 := 42 :: t_Mr_read_31
abbrev t_Mr_read_27 : List UInt8 := 153 :: 0 :: 57 :: t_Mr_read_30
abbrev t_Mr_read_26 : List UInt8 := 27 :: t_Mr_read_27
abbrev t_Mr_read_25 : List UInt8 := 60 :: t_Mr_read_26
abbrev t_Mr_read_24 : List UInt8 := 4 :: t_Mr_read_25
abbrev t_Mr_read_21 : List UInt8 := 181 :: 0 :: 120 :: t_Mr_read_24
abbrev t_Mr_read_20 : List UInt8 := 3 :: t_Mr_read_21
abbrev t_Mr_read_19 : List UInt8 := 42 :: t_Mr_read_20
abbrev t_Mr_read_16 : List UInt8 := 181 :: 0 :: 88 :: t_Mr_read_19
abbrev t_Mr_read_15 : List UInt8 := 3 :: t_Mr_read_16
abbrev t_Mr_read_14 : List UInt8 := 42 :: t_Mr_read_15
abbrev t_Mr_read_11 : List UInt8 := 181 :: 0 :: 70 :: t_Mr_read_14
abbrev t_Mr_read_10 : List UInt8 := 3 :: t_Mr_read_11
abbrev t_Mr_read_9 : List UInt8 := 42 :: t_Mr_read_10
abbrev t_Mr_read_6 : List UInt8 := 181 :: 0 :: 59 :: t_Mr_read_9
abbrev t_Mr_read_5 : List UInt8 := 3 :: t_Mr_read_6
abbrev t_Mr_read_4 : List UInt8 := 42 :: t_Mr_read_5
abbrev t_Mr_read_1 : List UInt8 := 182 :: 0 :: 126 :: t_Mr_read_4
abbrev t_Mr_read_0 : List UInt8 := 42 :: t_Mr_read_1
theorem a_Mr_read_0 : dk_at b_Mr_read 0 t_Mr_read_0 := dk_start (by decide +kernel)
theorem a_Mr_read_1 : dk_at b_Mr_read 1 t_Mr_read_1 := dk_go 1 a_Mr_read_0 rfl
theorem a_Mr_read_4 : dk_at b_Mr_read 4 t_Mr_read_4 := dk_go 3 a_Mr_read_1 rfl
theorem a_Mr_read_5 : dk_at b_Mr_read 5 t_Mr_read_5 := dk_go 1 a_Mr_read_4 rfl
theorem a_Mr_read_6 : dk_at b_Mr_read 6 t_Mr_read_6 := dk_go 1 a_Mr_read_5 rfl
theorem a_Mr_read_9 : dk_at b_Mr_read 9 t_Mr_read_9 := dk_go 3 a_Mr_read_6 rfl
theorem a_Mr_read_10 : dk_at b_Mr_read 10 t_Mr_read_10 := dk_go 1 a_Mr_read_9 rfl
theorem a_Mr_read_11 : dk_at b_Mr_read 11 t_Mr_read_11 := dk_go 1 a_Mr_read_10 rfl
theorem a_Mr_read_14 : dk_at b_Mr_read 14 t_Mr_read_14 := dk_go 3 a_Mr_read_11 rfl
theorem a_Mr_read_15 : dk_at b_Mr_read 15 t_Mr_read_15 := dk_go 1 a_Mr_read_14 rfl
theorem a_Mr_read_16 : dk_at b_Mr_read 16 t_Mr_read_16 := dk_go 1 a_Mr_read_15 rfl
theorem a_Mr_read_19 : dk_at b_Mr_read 19 t_Mr_read_19 := dk_go 3 a_Mr_read_16 rfl
theorem a_Mr_read_20 : dk_at b_Mr_read 20 t_Mr_read_20 := dk_go 1 a_Mr_read_19 rfl
theorem a_Mr_read_21 : dk_at b_Mr_read 21 t_Mr_read_21 := dk_go 1 a_Mr_read_20 rfl
theorem a_Mr_read_24 : dk_at b_Mr_read 24 t_Mr_read_24 := dk_go 3 a_Mr_read_21 rfl
theorem a_Mr_read_25 : dk_at b_Mr_read 25 t_Mr_read_25 := dk_go 1 a_Mr_read_24 rfl
theorem a_Mr_read_26 : dk_at b_Mr_read 26 t_Mr_read_26 := dk_go 1 a_Mr_read_25 rfl
theorem a_Mr_read_27 : dk_at b_Mr_read 27 t_Mr_read_27 := dk_go 1 a_Mr_read_26 rfl
theorem a_Mr_read_30 : dk_at b_Mr_read 30 t_Mr_read_30 := dk_go 3 a_Mr_read_27 rfl
theorem a_Mr_read_31 : dk_at b_Mr_read 31 t_Mr_read_31 := dk_go 1 a_Mr_read_30 rfl
theorem a_Mr_read_34 : dk_at b_Mr_read 34 t_Mr_read_34 := dk_go 3 a_Mr_read_31 rfl
theorem a_Mr_read_35 : dk_at b_Mr_read 35 t_Mr_read_35 := dk_go 1 a_Mr_read_34 rfl
theorem a_Mr_read_38 : dk_at b_Mr_read 38 t_Mr_read_38 := dk_go 3 a_Mr_read_35 rfl
theorem a_Mr_read_41 : dk_at b_Mr_read 41 t_Mr_read_41 := dk_go 3 a_Mr_read_38 rfl
theorem a_Mr_read_42 : dk_at b_Mr_read 42 t_Mr_read_42 := dk_go 1 a_Mr_read_41 rfl
theorem a_Mr_read_44 : dk_at b_Mr_read 44 t_Mr_read_44 := dk_go 2 a_Mr_read_42 rfl
theorem a_Mr_read_46 : dk_at b_Mr_read 46 t_Mr_read_46 := dk_go 2 a_Mr_read_44 rfl
theorem a_Mr_read_48 : dk_at b_Mr_read 48 t_Mr_read_48 := dk_go 2 a_Mr_read_46 rfl
theorem a_Mr_read_49 : dk_at b_Mr_read 49 t_Mr_read_49 := dk_go 1 a_Mr_read_48 rfl
theorem a_Mr_read_50 : dk_at b_Mr_read 50 t_Mr_read_50 := dk_go 1 a_Mr_read_49 rfl
theorem a_Mr_read_51 : dk_at b_Mr_read 51 t_Mr_read_51 := dk_go 1 a_Mr_read_50 rfl
theorem a_Mr_read_52 : dk_at b_Mr_read 52 t_Mr_read_52 := dk_go 1 a_Mr_read_51 rfl
theorem a_Mr_read_53 : dk_at b_Mr_read 53 t_Mr_read_53 := dk_go 1 a_Mr_read_52 rfl
theorem a_Mr_read_56 : dk_at b_Mr_read 56 t_Mr_read_56 := dk_go 3 a_Mr_read_53 rfl
theorem a_Mr_read_59 : dk_at b_Mr_read 59 t_Mr_read_59 := dk_go 3 a_Mr_read_56 rfl
theorem a_Mr_read_60 : dk_at b_Mr_read 60 t_Mr_read_60 := dk_go 1 a_Mr_read_59 rfl
theorem a_Mr_read_63 : dk_at b_Mr_read 63 t_Mr_read_63 := dk_go 3 a_Mr_read_60 rfl
theorem a_Mr_read_65 : dk_at b_Mr_read 65 t_Mr_read_65 := dk_go 2 a_Mr_read_63 rfl
theorem a_Mr_read_68 : dk_at b_Mr_read 68 t_Mr_read_68 := dk_go 3 a_Mr_read_65 rfl
theorem a_Mr_read_69 : dk_at b_Mr_read 69 t_Mr_read_69 := dk_go 1 a_Mr_read_68 rfl
theorem a_Mr_read_72 : dk_at b_Mr_read 72 t_Mr_read_72 := dk_go 3 a_Mr_read_69 rfl
theorem a_Mr_read_75 : dk_at b_Mr_read 75 t_Mr_read_75 := dk_go 3 a_Mr_read_72 rfl
theorem a_Mr_read_76 : dk_at b_Mr_read 76 t_Mr_read_76 := dk_go 1 a_Mr_read_75 rfl
theorem a_Mr_read_79 : dk_at b_Mr_read 79 t_Mr_read_79 := dk_go 3 a_Mr_read_76 rfl
theorem a_Mr_read_80 : dk_at b_Mr_read 80 t_Mr_read_80 := dk_go 1 a_Mr_read_79 rfl
theorem a_Mr_read_81 : dk_at b_Mr_read 81 t_Mr_read_81 := dk_go 1 a_Mr_read_80 rfl
theorem a_Mr_read_84 : dk_at b_Mr_read 84 t_Mr_read_84 := dk_go 3 a_Mr_read_81 rfl
theorem a_Mr_read_85 : dk_at b_Mr_read 85 t_Mr_read_85 := dk_go 1 a_Mr_read_84 rfl
theorem a_Mr_read_88 : dk_at b_Mr_read 88 t_Mr_read_88 := dk_go 3 a_Mr_read_85 rfl
theorem a_Mr_read_89 : dk_at b_Mr_read 89 t_Mr_read_89 := dk_go 1 a_Mr_read_88 rfl
theorem a_Mr_read_90 : dk_at b_Mr_read 90 t_Mr_read_90 := dk_go 1 a_Mr_read_89 rfl
theorem a_Mr_read_93 : dk_at b_Mr_read 93 t_Mr_read_93 := dk_go 3 a_Mr_read_90 rfl
theorem a_Mr_read_94 : dk_at b_Mr_read 94 t_Mr_read_94 := dk_go 1 a_Mr_read_93 rfl
theorem a_Mr_read_95 : dk_at b_Mr_read 95 t_Mr_read_95 := dk_go 1 a_Mr_read_94 rfl
theorem a_Mr_read_96 : dk_at b_Mr_read 96 t_Mr_read_96 := dk_go 1 a_Mr_read_95 rfl
theorem a_Mr_read_97 : dk_at b_Mr_read 97 t_Mr_read_97 := dk_go 1 a_Mr_read_96 rfl
theorem a_Mr_read_98 : dk_at b_Mr_read 98 t_Mr_read_98 := dk_go 1 a_Mr_read_97 rfl
theorem a_Mr_read_101 : dk_at b_Mr_read 101 t_Mr_read_101 := dk_go 3 a_Mr_read_98 rfl
theorem a_Mr_read_102 : dk_at b_Mr_read 102 t_Mr_read_102 := dk_go 1 a_Mr_read_101 rfl
theorem a_Mr_read_105 : dk_at b_Mr_read 105 t_Mr_read_105 := dk_go 3 a_Mr_read_102 rfl
theorem a_Mr_read_106 : dk_at b_Mr_read 106 t_Mr_read_106 := dk_go 1 a_Mr_read_105 rfl
theorem a_Mr_read_107 : dk_at b_Mr_read 107 t_Mr_read_107 := dk_go 1 a_Mr_read_106 rfl
theorem a_Mr_read_110 : dk_at b_Mr_read 110 t_Mr_read_110 := dk_go 3 a_Mr_read_107 rfl
theorem a_Mr_read_113 : dk_at b_Mr_read 113 t_Mr_read_113 := dk_go 3 a_Mr_read_110 rfl
theorem a_Mr_read_114 : dk_at b_Mr_read 114 t_Mr_read_114 := dk_go 1 a_Mr_read_113 rfl
theorem a_Mr_read_115 : dk_at b_Mr_read 115 t_Mr_read_115 := dk_go 1 a_Mr_read_114 rfl
theorem a_Mr_read_116 : dk_at b_Mr_read 116 t_Mr_read_116 := dk_go 1 a_Mr_read_115 rfl
theorem a_Mr_read_117 : dk_at b_Mr_read 117 t_Mr_read_117 := dk_go 1 a_Mr_read_116 rfl
theorem a_Mr_read_120 : dk_at b_Mr_read 120 t_Mr_read_120 := dk_go 3 a_Mr_read_117 rfl
theorem a_Mr_read_123 : dk_at b_Mr_read 123 t_Mr_read_123 := dk_go 3 a_Mr_read_120 rfl
theorem a_Mr_read_124 : dk_at b_Mr_read 124 t_Mr_read_124 := dk_go 1 a_Mr_read_123 rfl
theorem a_Mr_read_127 : dk_at b_Mr_read 127 t_Mr_read_127 := dk_go 3 a_Mr_read_124 rfl
theorem a_Mr_read_128 : dk_at b_Mr_read 128 t_Mr_read_128 := dk_go 1 a_Mr_read_127 rfl
theorem a_Mr_read_129 : dk_at b_Mr_read 129 t_Mr_read_129 := dk_go 1 a_Mr_read_128 rfl
theorem a_Mr_read_130 : dk_at b_Mr_read 130 t_Mr_read_130 := dk_go 1 a_Mr_read_129 rfl
theorem a_Mr_read_131 : dk_at b_Mr_read 131 t_Mr_read_131 := dk_go 1 a_Mr_read_130 rfl
theorem a_Mr_read_134 : dk_at b_Mr_read 134 t_Mr_read_134 := dk_go 3 a_Mr_read_131 rfl
theorem a_Mr_read_135 : dk_at b_Mr_read 135 t_Mr_read_135 := dk_go 1 a_Mr_read_134 rfl
theorem a_Mr_read_136 : dk_at b_Mr_read 136 t_Mr_read_136 := dk_go 1 a_Mr_read_135 rfl
theorem a_Mr_read_137 : dk_at b_Mr_read 137 t_Mr_read_137 := dk_go 1 a_Mr_read_136 rfl
theorem a_Mr_read_138 : dk_at b_Mr_read 138 t_Mr_read_138 := dk_go 1 a_Mr_read_137 rfl
theorem a_Mr_read_141 : dk_at b_Mr_read 141 t_Mr_read_141 := dk_go 3 a_Mr_read_138 rfl
theorem a_Mr_read_142 : dk_at b_Mr_read 142 t_Mr_read_142 := dk_go 1 a_Mr_read_141 rfl
theorem a_Mr_read_143 : dk_at b_Mr_read 143 t_Mr_read_143 := dk_go 1 a_Mr_read_142 rfl
theorem a_Mr_read_144 : dk_at b_Mr_read 144 t_Mr_read_144 := dk_go 1 a_Mr_read_143 rfl
theorem a_Mr_read_147 : dk_at b_Mr_read 147 t_Mr_read_147 := dk_go 3 a_Mr_read_144 rfl
theorem a_Mr_read_150 : dk_at b_Mr_read 150 t_Mr_read_150 := dk_go 3 a_Mr_read_147 rfl
theorem a_Mr_read_151 : dk_at b_Mr_read 151 t_Mr_read_151 := dk_go 1 a_Mr_read_150 rfl
theorem a_Mr_read_154 : dk_at b_Mr_read 154 t_Mr_read_154 := dk_go 3 a_Mr_read_151 rfl
theorem d_Mr_read_0 : decode b_Mr_read 0 = .ok (.aload_n 0, 1) := dk_0 a_Mr_read_0 (dko_42 _)
theorem d_Mr_read_1 : decode b_Mr_read 1 = .ok (.invokevirtual 126, 3) := dk_U2 a_Mr_read_1 (dko_182 _) rfl
theorem d_Mr_read_4 : decode b_Mr_read 4 = .ok (.aload_n 0, 1) := dk_0 a_Mr_read_4 (dko_42 _)
theorem d_Mr_read_5 : decode b_Mr_read 5 = .ok (.iconst 0, 1) := dk_0 a_Mr_read_5 (dko_3 _)
theorem d_Mr_read_6 : decode b_Mr_read 6 = .ok (.putfield 59, 3) := dk_U2 a_Mr_read_6 (dko_181 _) rfl
theorem d_Mr_read_9 : decode b_Mr_read 9 = .ok (.aload_n 0, 1) := dk_0 a_Mr_read_9 (dko_42 _)
theorem d_Mr_read_10 : decode b_Mr_read 10 = .ok (.iconst 0, 1) := dk_0 a_Mr_read_10 (dko_3 _)
theorem d_Mr_read_11 : decode b_Mr_read 11 = .ok (.putfield 70, 3) := dk_U2 a_Mr_read_11 (dko_181 _) rfl
theorem d_Mr_read_14 : decode b_Mr_read 14 = .ok (.aload_n 0, 1) := dk_0 a_Mr_read_14 (dko_42 _)
theorem d_Mr_read_15 : decode b_Mr_read 15 = .ok (.iconst 0, 1) := dk_0 a_Mr_read_15 (dko_3 _)
theorem d_Mr_read_16 : decode b_Mr_read 16 = .ok (.putfield 88, 3) := dk_U2 a_Mr_read_16 (dko_181 _) rfl
theorem d_Mr_read_19 : decode b_Mr_read 19 = .ok (.aload_n 0, 1) := dk_0 a_Mr_read_19 (dko_42 _)
theorem d_Mr_read_20 : decode b_Mr_read 20 = .ok (.iconst 0, 1) := dk_0 a_Mr_read_20 (dko_3 _)
theorem d_Mr_read_21 : decode b_Mr_read 21 = .ok (.putfield 120, 3) := dk_U2 a_Mr_read_21 (dko_181 _) rfl
theorem d_Mr_read_24 : decode b_Mr_read 24 = .ok (.iconst 1, 1) := dk_0 a_Mr_read_24 (dko_4 _)
theorem d_Mr_read_25 : decode b_Mr_read 25 = .ok (.istore_n 1, 1) := dk_0 a_Mr_read_25 (dko_60 _)
theorem d_Mr_read_26 : decode b_Mr_read 26 = .ok (.iload_n 1, 1) := dk_0 a_Mr_read_26 (dko_27 _)
theorem d_Mr_read_27 : decode b_Mr_read 27 = .ok (.ifCond .eq 57, 3) := dk_S2 a_Mr_read_27 (dko_153 _) (by decide +kernel)
theorem d_Mr_read_30 : decode b_Mr_read 30 = .ok (.aload_n 0, 1) := dk_0 a_Mr_read_30 (dko_42 _)
theorem d_Mr_read_31 : decode b_Mr_read 31 = .ok (.getfield 70, 3) := dk_U2 a_Mr_read_31 (dko_180 _) rfl
theorem d_Mr_read_34 : decode b_Mr_read 34 = .ok (.aload_n 0, 1) := dk_0 a_Mr_read_34 (dko_42 _)
theorem d_Mr_read_35 : decode b_Mr_read 35 = .ok (.getfield 63, 3) := dk_U2 a_Mr_read_35 (dko_180 _) rfl
theorem d_Mr_read_38 : decode b_Mr_read 38 = .ok (.if_icmp .ge 46, 3) := dk_S2 a_Mr_read_38 (dko_162 _) (by decide +kernel)
theorem d_Mr_read_41 : decode b_Mr_read 41 = .ok (.aload_n 0, 1) := dk_0 a_Mr_read_41 (dko_42 _)
theorem d_Mr_read_42 : decode b_Mr_read 42 = .ok (.bipush 98, 2) := dk_S1 a_Mr_read_42 (dko_16 _) (by decide +kernel)
theorem d_Mr_read_44 : decode b_Mr_read 44 = .ok (.bipush 97, 2) := dk_S1 a_Mr_read_44 (dko_16 _) (by decide +kernel)
theorem d_Mr_read_46 : decode b_Mr_read 46 = .ok (.bipush 114, 2) := dk_S1 a_Mr_read_46 (dko_16 _) (by decide +kernel)
theorem d_Mr_read_48 : decode b_Mr_read 48 = .ok (.iconst 0, 1) := dk_0 a_Mr_read_48 (dko_3 _)
theorem d_Mr_read_49 : decode b_Mr_read 49 = .ok (.iconst 0, 1) := dk_0 a_Mr_read_49 (dko_3 _)
theorem d_Mr_read_50 : decode b_Mr_read 50 = .ok (.iconst 0, 1) := dk_0 a_Mr_read_50 (dko_3 _)
theorem d_Mr_read_51 : decode b_Mr_read 51 = .ok (.iconst 0, 1) := dk_0 a_Mr_read_51 (dko_3 _)
theorem d_Mr_read_52 : decode b_Mr_read 52 = .ok (.iconst 3, 1) := dk_0 a_Mr_read_52 (dko_6 _)
theorem d_Mr_read_53 : decode b_Mr_read 53 = .ok (.invokevirtual 94, 3) := dk_U2 a_Mr_read_53 (dko_182 _) rfl
theorem d_Mr_read_56 : decode b_Mr_read 56 = .ok (.ifCond .eq 23, 3) := dk_S2 a_Mr_read_56 (dko_153 _) (by decide +kernel)
theorem d_Mr_read_59 : decode b_Mr_read 59 = .ok (.aload_n 0, 1) := dk_0 a_Mr_read_59 (dko_42 _)
theorem d_Mr_read_60 : decode b_Mr_read 60 = .ok (.getfield 120, 3) := dk_U2 a_Mr_read_60 (dko_180 _) rfl
theorem d_Mr_read_63 : decode b_Mr_read 63 = .ok (.bipush 40, 2) := dk_S1 a_Mr_read_63 (dko_16 _) (by decide +kernel)
theorem d_Mr_read_65 : decode b_Mr_read 65 = .ok (.if_icmp .ge 14, 3) := dk_S2 a_Mr_read_65 (dko_162 _) (by decide +kernel)
theorem d_Mr_read_68 : decode b_Mr_read 68 = .ok (.aload_n 0, 1) := dk_0 a_Mr_read_68 (dko_42 _)
theorem d_Mr_read_69 : decode b_Mr_read 69 = .ok (.invokevirtual 129, 3) := dk_U2 a_Mr_read_69 (dko_182 _) rfl
theorem d_Mr_read_72 : decode b_Mr_read 72 = .ok (.ifCond .eq 7, 3) := dk_S2 a_Mr_read_72 (dko_153 _) (by decide +kernel)
theorem d_Mr_read_75 : decode b_Mr_read 75 = .ok (.iconst 1, 1) := dk_0 a_Mr_read_75 (dko_4 _)
theorem d_Mr_read_76 : decode b_Mr_read 76 = .ok (.goto 4, 3) := dk_S2 a_Mr_read_76 (dko_167 _) (by decide +kernel)
theorem d_Mr_read_79 : decode b_Mr_read 79 = .ok (.iconst 0, 1) := dk_0 a_Mr_read_79 (dko_3 _)
theorem d_Mr_read_80 : decode b_Mr_read 80 = .ok (.istore_n 1, 1) := dk_0 a_Mr_read_80 (dko_60 _)
theorem d_Mr_read_81 : decode b_Mr_read 81 = .ok (.goto (-55), 3) := dk_S2 a_Mr_read_81 (dko_167 _) (by decide +kernel)
theorem d_Mr_read_84 : decode b_Mr_read 84 = .ok (.iload_n 1, 1) := dk_0 a_Mr_read_84 (dko_27 _)
theorem d_Mr_read_85 : decode b_Mr_read 85 = .ok (.ifCond .ne 10, 3) := dk_S2 a_Mr_read_85 (dko_154 _) (by decide +kernel)
theorem d_Mr_read_88 : decode b_Mr_read 88 = .ok (.iconst (-1), 1) := dk_0 a_Mr_read_88 (dko_2 _)
theorem d_Mr_read_89 : decode b_Mr_read 89 = .ok (.aload_n 0, 1) := dk_0 a_Mr_read_89 (dko_42 _)
theorem d_Mr_read_90 : decode b_Mr_read 90 = .ok (.getfield 70, 3) := dk_U2 a_Mr_read_90 (dko_180 _) rfl
theorem d_Mr_read_93 : decode b_Mr_read 93 = .ok (.isub, 1) := dk_0 a_Mr_read_93 (dko_100 _)
theorem d_Mr_read_94 : decode b_Mr_read 94 = .ok (.ireturn, 1) := dk_0 a_Mr_read_94 (dko_172 _)
theorem d_Mr_read_95 : decode b_Mr_read 95 = .ok (.aload_n 0, 1) := dk_0 a_Mr_read_95 (dko_42 _)
theorem d_Mr_read_96 : decode b_Mr_read 96 = .ok (.iconst 1, 1) := dk_0 a_Mr_read_96 (dko_4 _)
theorem d_Mr_read_97 : decode b_Mr_read 97 = .ok (.aload_n 0, 1) := dk_0 a_Mr_read_97 (dko_42 _)
theorem d_Mr_read_98 : decode b_Mr_read 98 = .ok (.getfield 85, 3) := dk_U2 a_Mr_read_98 (dko_180 _) rfl
theorem d_Mr_read_101 : decode b_Mr_read 101 = .ok (.isub, 1) := dk_0 a_Mr_read_101 (dko_100 _)
theorem d_Mr_read_102 : decode b_Mr_read 102 = .ok (.putfield 85, 3) := dk_U2 a_Mr_read_102 (dko_181 _) rfl
theorem d_Mr_read_105 : decode b_Mr_read 105 = .ok (.aload_n 0, 1) := dk_0 a_Mr_read_105 (dko_42 _)
theorem d_Mr_read_106 : decode b_Mr_read 106 = .ok (.aload_n 0, 1) := dk_0 a_Mr_read_106 (dko_42 _)
theorem d_Mr_read_107 : decode b_Mr_read 107 = .ok (.getfield 120, 3) := dk_U2 a_Mr_read_107 (dko_180 _) rfl
theorem d_Mr_read_110 : decode b_Mr_read 110 = .ok (.putfield 133, 3) := dk_U2 a_Mr_read_110 (dko_181 _) rfl
theorem d_Mr_read_113 : decode b_Mr_read 113 = .ok (.iconst 0, 1) := dk_0 a_Mr_read_113 (dko_3 _)
theorem d_Mr_read_114 : decode b_Mr_read 114 = .ok (.istore_n 2, 1) := dk_0 a_Mr_read_114 (dko_61 _)
theorem d_Mr_read_115 : decode b_Mr_read 115 = .ok (.iload_n 2, 1) := dk_0 a_Mr_read_115 (dko_28 _)
theorem d_Mr_read_116 : decode b_Mr_read 116 = .ok (.aload_n 0, 1) := dk_0 a_Mr_read_116 (dko_42 _)
theorem d_Mr_read_117 : decode b_Mr_read 117 = .ok (.getfield 133, 3) := dk_U2 a_Mr_read_117 (dko_180 _) rfl
theorem d_Mr_read_120 : decode b_Mr_read 120 = .ok (.if_icmp .ge 30, 3) := dk_S2 a_Mr_read_120 (dko_162 _) (by decide +kernel)
theorem d_Mr_read_123 : decode b_Mr_read 123 = .ok (.aload_n 0, 1) := dk_0 a_Mr_read_123 (dko_42 _)
theorem d_Mr_read_124 : decode b_Mr_read 124 = .ok (.getfield 50, 3) := dk_U2 a_Mr_read_124 (dko_180 _) rfl
theorem d_Mr_read_127 : decode b_Mr_read 127 = .ok (.iload_n 2, 1) := dk_0 a_Mr_read_127 (dko_28 _)
theorem d_Mr_read_128 : decode b_Mr_read 128 = .ok (.iconst 0, 1) := dk_0 a_Mr_read_128 (dko_3 _)
theorem d_Mr_read_129 : decode b_Mr_read 129 = .ok (.iastore, 1) := dk_0 a_Mr_read_129 (dko_79 _)
theorem d_Mr_read_130 : decode b_Mr_read 130 = .ok (.aload_n 0, 1) := dk_0 a_Mr_read_130 (dko_42 _)
theorem d_Mr_read_131 : decode b_Mr_read 131 = .ok (.getfield 53, 3) := dk_U2 a_Mr_read_131 (dko_180 _) rfl
theorem d_Mr_read_134 : decode b_Mr_read 134 = .ok (.iload_n 2, 1) := dk_0 a_Mr_read_134 (dko_28 _)
theorem d_Mr_read_135 : decode b_Mr_read 135 = .ok (.iconst 0, 1) := dk_0 a_Mr_read_135 (dko_3 _)
theorem d_Mr_read_136 : decode b_Mr_read 136 = .ok (.bastore, 1) := dk_0 a_Mr_read_136 (dko_84 _)
theorem d_Mr_read_137 : decode b_Mr_read 137 = .ok (.aload_n 0, 1) := dk_0 a_Mr_read_137 (dko_42 _)
theorem d_Mr_read_138 : decode b_Mr_read 138 = .ok (.getfield 56, 3) := dk_U2 a_Mr_read_138 (dko_180 _) rfl
theorem d_Mr_read_141 : decode b_Mr_read 141 = .ok (.iload_n 2, 1) := dk_0 a_Mr_read_141 (dko_28 _)
theorem d_Mr_read_142 : decode b_Mr_read 142 = .ok (.iconst 0, 1) := dk_0 a_Mr_read_142 (dko_3 _)
theorem d_Mr_read_143 : decode b_Mr_read 143 = .ok (.iastore, 1) := dk_0 a_Mr_read_143 (dko_79 _)
theorem d_Mr_read_144 : decode b_Mr_read 144 = .ok (.iinc 2 1, 3) := dk_US a_Mr_read_144 (dko_132 _) (by decide +kernel)
theorem d_Mr_read_147 : decode b_Mr_read 147 = .ok (.goto (-32), 3) := dk_S2 a_Mr_read_147 (dko_167 _) (by decide +kernel)
theorem d_Mr_read_150 : decode b_Mr_read 150 = .ok (.aload_n 0, 1) := dk_0 a_Mr_read_150 (dko_42 _)
theorem d_Mr_read_151 : decode b_Mr_read 151 = .ok (.getfield 133, 3) := dk_U2 a_Mr_read_151 (dko_180 _) rfl
theorem d_Mr_read_154 : decode b_Mr_read 154 = .ok (.ireturn, 1) := dk_0 a_Mr_read_154 (dko_172 _)
set_option maxHeartbeats 4000000 in
set_option maxRecDepth 100000 in
theorem ok_Mr_read (pc : Nat) : OpS mt mi_Mr_read pc (cs_Mr_read pc) := (os_n (os_n (os_n (os_n (os_n (os_n (os_l (so_aload_n d_Mr_read_0 rfl)) (os_l (so_callV (iv := mi_Mr_cut) rfl rfl rfl mw_2119 mw_2121 sl_97 mw_20 mw_2122 ⟨by decide +kernel, by decide +kernel, by decide +kernel⟩ (by decide) d_Mr_read_1))) (os_n (os_l (so_aload_n d_Mr_read_4 rfl)) (os_n (os_l (so_iconst d_Mr_read_5 (by decide))) (os_l (so_putI (C := R_Mr) (T := F_Mr) (N := 25) (j := 1) in_Mr t_Mr_ok n_Mr rfl (by decide) mw_1713 rfl (by decide +kernel) d_Mr_read_6))))) (os_n (os_n (os_l (so_aload_n d_Mr_read_9 rfl)) (os_n (os_l (so_iconst d_Mr_read_10 (by decide))) (os_l (so_putI (C := R_Mr) (T := F_Mr) (N := 25) (j := 5) in_Mr t_Mr_ok n_Mr rfl (by decide) mw_1717 rfl (by decide +kernel) d_Mr_read_11)))) (os_n (os_l (so_aload_n d_Mr_read_14 rfl)) (os_n (os_l (so_iconst d_Mr_read_15 (by decide))) (os_l (so_putI (C := R_Mr) (T := F_Mr) (N := 25) (j := 11) in_Mr t_Mr_ok n_Mr rfl (by decide) mw_1723 rfl (by decide +kernel) d_Mr_read_16)))))) (os_n (os_n (os_n (os_l (so_aload_n d_Mr_read_19 rfl)) (os_l (so_iconst d_Mr_read_20 (by decide)))) (os_n (os_l (so_putI (C := R_Mr) (T := F_Mr) (N := 25) (j := 13) in_Mr t_Mr_ok n_Mr rfl (by decide) mw_1725 rfl (by decide +kernel) d_Mr_read_21)) (os_n (os_l (so_iconst d_Mr_read_24 (by decide))) (os_l (so_istore_n d_Mr_read_25 rfl (by decide)))))) (os_n (os_n (os_l (so_iload_n d_Mr_read_26 rfl)) (os_n (os_l (so_ifeq d_Mr_read_27 (by decide))) (os_l (so_aload_n d_Mr_read_30 rfl)))) (os_n (os_l (so_get (C := R_Mr) (T := F_Mr) (N := 25) (j := 5) in_Mr rfl (by decide) mw_1717 d_Mr_read_31)) (os_n (os_l (so_aload_n d_Mr_read_34 rfl)) (os_l (so_get (C := R_Mr) (T := F_Mr) (N := 25) (j := 4) in_Mr rfl (by decide) mw_1716 d_Mr_read_35))))))) (os_n (os_n (os_n (os_n (os_l (so_icge d_Mr_read_38 (by decide))) (os_l (so_aload_n d_Mr_read_41 rfl))) (os_n (os_l (so_bipush d_Mr_read_42 (by decide))) (os_n (os_l (so_bipush d_Mr_read_44 (by decide))) (os_l (so_bipush d_Mr_read_46 (by decide)))))) (os_n (os_n (os_l (so_iconst d_Mr_read_48 (by decide))) (os_n (os_l (so_iconst d_Mr_read_49 (by decide))) (os_l (so_iconst d_Mr_read_50 (by decide))))) (os_n (os_l (so_iconst d_Mr_read_51 (by decide))) (os_n (os_l (so_iconst d_Mr_read_52 (by decide))) (os_l (so_callV (iv := mi_Mr_is) rfl rfl rfl mw_2126 mw_2128 sl_98 mw_20 mw_2129 ⟨by decide +kernel, by decide +kernel, by decide +kernel⟩ (by decide) d_Mr_read_53)))))) (os_n (os_n (os_n (os_l (so_ifeq d_Mr_read_56 (by decide))) (os_l (so_aload_n d_Mr_read_59 rfl))) (os_n (os_l (so_get (C := R_Mr) (T := F_Mr) (N := 25) (j := 13) in_Mr rfl (by decide) mw_1725 d_Mr_read_60)) (os_n (os_l (so_bipush d_Mr_read_63 (by decide))) (os_l (so_icge d_Mr_read_65 (by decide)))))) (os_n (os_n (os_l (so_aload_n d_Mr_read_68 rfl)) (os_n (os_l (so_callV (iv := mi_Mr_readRow) rfl rfl rfl mw_2138 mw_2140 sl_101 mw_20 mw_2141 ⟨by decide +kernel, by decide +kernel, by decide +kernel⟩ (by decide) d_Mr_read_69)) (os_l (so_ifeq d_Mr_read_72 (by decide))))) (os_n (os_l (so_iconst d_Mr_read_75 (by decide))) (os_n (os_l (so_goto d_Mr_read_76 (by decide))) (os_l (so_iconst d_Mr_read_79 (by decide))))))))) (os_n (os_n (os_n (os_n (os_n (os_l (so_istore_n d_Mr_read_80 rfl (by decide))) (os_l (so_goto d_Mr_read_81 (by decide)))) (os_n (os_l (so_iload_n d_Mr_read_84 rfl)) (os_n (os_l (so_ifne d_Mr_read_85 (by decide))) (os_l (so_iconst d_Mr_read_88 (by decide)))))) (os_n (os_n (os_l (so_aload_n d_Mr_read_89 rfl)) (os_n (os_l (so_get (C := R_Mr) (T := F_Mr) (N := 25) (j := 5) in_Mr rfl (by decide) mw_1717 d_Mr_read_90)) (os_l (so_isub d_Mr_read_93)))) (os_n (os_l (so_ireturn rfl d_Mr_read_94)) (os_n (os_l (so_aload_n d_Mr_read_95 rfl)) (os_l (so_iconst d_Mr_read_96 (by decide))))))) (os_n (os_n (os_n (os_l (so_aload_n d_Mr_read_97 rfl)) (os_l (so_get (C := R_Mr) (T := F_Mr) (N := 25) (j := 12) in_Mr rfl (by decide) mw_1724 d_Mr_read_98))) (os_n (os_l (so_isub d_Mr_read_101)) (os_n (os_l (so_putI (C := R_Mr) (T := F_Mr) (N := 25) (j := 12) in_Mr t_Mr_ok n_Mr rfl (by decide) mw_1724 rfl (by decide +kernel) d_Mr_read_102)) (os_l (so_aload_n d_Mr_read_105 rfl))))) (os_n (os_n (os_l (so_aload_n d_Mr_read_106 rfl)) (os_n (os_l (so_get (C := R_Mr) (T := F_Mr) (N := 25) (j := 13) in_Mr rfl (by decide) mw_1725 d_Mr_read_107)) (os_l (so_putI (C := R_Mr) (T := F_Mr) (N := 25) (j := 20) in_Mr t_Mr_ok n_Mr rfl (by decide) mw_1732 rfl (by decide +kernel) d_Mr_read_110)))) (os_n (os_l (so_iconst d_Mr_read_113 (by decide))) (os_n (os_l (so_istore_n d_Mr_read_114 rfl (by decide))) (os_l (so_iload_n d_Mr_read_115 rfl))))))) (os_n (os_n (os_n (os_n (os_l (so_aload_n d_Mr_read_116 rfl)) (os_l (so_get (C := R_Mr) (T := F_Mr) (N := 25) (j := 20) in_Mr rfl (by decide) mw_1732 d_Mr_read_117))) (os_n (os_l (so_icge d_Mr_read_120 (by decide))) (os_n (os_l (so_aload_n d_Mr_read_123 rfl)) (os_l (so_get (C := R_Mr) (T := F_Mr) (N := 25) (j := 21) in_Mr rfl (by decide) mw_1734 d_Mr_read_124))))) (os_n (os_n (os_l (so_iload_n d_Mr_read_127 rfl)) (os_n (os_l (so_iconst d_Mr_read_128 (by decide))) (os_l (so_iastore d_Mr_read_129)))) (os_n (os_l (so_aload_n d_Mr_read_130 rfl)) (os_n (os_l (so_get (C := R_Mr) (T := F_Mr) (N := 25) (j := 22) in_Mr rfl (by decide) mw_1736 d_Mr_read_131)) (os_l (so_iload_n d_Mr_read_134 rfl)))))) (os_n (os_n (os_n (os_l (so_iconst d_Mr_read_135 (by decide))) (os_n (os_l (so_bastore d_Mr_read_136)) (os_l (so_aload_n d_Mr_read_137 rfl)))) (os_n (os_l (so_get (C := R_Mr) (T := F_Mr) (N := 25) (j := 23) in_Mr rfl (by decide) mw_1738 d_Mr_read_138)) (os_n (os_l (so_iload_n d_Mr_read_141 rfl)) (os_l (so_iconst d_Mr_read_142 (by decide)))))) (os_n (os_n (os_l (so_iastore d_Mr_read_143)) (os_n (os_l (so_iinc d_Mr_read_144 (by decide) (by decide))) (os_l (so_goto d_Mr_read_147 (by decide))))) (os_n (os_l (so_aload_n d_Mr_read_150 rfl)) (os_n (os_l (so_get (C := R_Mr) (T := F_Mr) (N := 25) (j := 20) in_Mr rfl (by decide) mw_1732 d_Mr_read_151)) (os_l (so_ireturn rfl d_Mr_read_154)))))))))
abbrev t_Mr_value_137 : List UInt8 := 172 :: []
abbrev t_Mr_value_136 : List UInt8 := 3 :: t_Mr_value_137
abbrev t_Mr_value_133 : List UInt8 := 167 :: 0 :: 4 :: t_Mr_value_136
abbrev t_Mr_value_132 : List UInt8 := 4 :: t_Mr_value_133
abbrev t_Mr_value_129 : List UInt8 := 160 :: 0 :: 7 :: t_Mr_value_132
abbrev t_Mr_value_128 : List UInt8 := 4 :: t_Mr_value_129
abbrev t_Mr_value_127 : List UInt8 := 126 :: t_Mr_value_128
abbrev t_Mr_value_126 : List UInt8 := 4 :: t_Mr_value_127
abbrev t_Mr_value_125 : List UInt8 := 122 :: t_Mr_value_126
abbrev t_Mr_value_124 : List UInt8 := 46 :: t_Mr_value_125
abbrev t_Mr_value_123 : List UInt8 := 27 :: t_Mr_value_124
abbrev t_Mr_value_120 : List UInt8 := 180 :: 0 :: 22 :: t_Mr_value_123
abbrev t_Mr_value_119 : List UInt8 := 42 :: t_Mr_value_120
abbrev t_Mr_value_116 : List UInt8 := 180 :: 0 :: 136 :: t_Mr_value_119
abbrev t_Mr_value_115 : List UInt8 := 42 :: t_Mr_value_116
abbrev t_Mr_value_114 : List UInt8 := 172 :: t_Mr_value_115
abbrev t_Mr_value_113 : List UInt8 := 3 :: t_Mr_value_114
abbrev t_Mr_value_110 : List UInt8 := 167 :: 0 :: 4 :: t_Mr_value_113
abbrev t_Mr_value_109 : List UInt8 := 4 :: t_Mr_value_110
abbrev t_Mr_value_106 : List UInt8 := 153 :: 0 :: 7 :: t_Mr_value_109
abbrev t_Mr_value_103 : List UInt8 := 182 :: 0 :: 139 :: t_Mr_value_106
abbrev t_Mr_value_102 : List UInt8 := 46 :: t_Mr_value_103
abbrev t_Mr_value_101 : List UInt8 := 27 :: t_Mr_value_102
abbrev t_Mr_value_98 : List UInt8 := 180 :: 0 :: 28 :: t_Mr_value_101
abbrev t_Mr_value_97 : List UInt8 := 42 :: t_Mr_value_98
abbrev t_Mr_value_96 : List UInt8 := 42 :: t_Mr_value_97
abbrev t_Mr_value_93 : List UInt8 := 154 :: 0 :: 16 :: t_Mr_value_96
abbrev t_Mr_value_90 : List UInt8 := 182 :: 0 :: 139 :: t_Mr_value_93
abbrev t_Mr_value_89 : List UInt8 := 46 :: t_Mr_value_90
abbrev t_Mr_value_88 : List UInt8 := 27 :: t_Mr_value_89
abbrev t_Mr_value_85 : List UInt8 := 180 :: 0 :: 25 :: t_Mr_value_88
abbrev t_Mr_value_84 : List UInt8 := 42 :: t_Mr_value_85
abbrev t_Mr_value_83 : List UInt8 := 42 :: t_Mr_value_84
abbrev t_Mr_value_82 : List UInt8 := 172 :: t_Mr_value_83
abbrev t_Mr_value_81 : List UInt8 := 3 :: t_Mr_value_82
abbrev t_Mr_value_78 : List UInt8 := 167 :: 0 :: 4 :: t_Mr_value_81
abbrev t_Mr_value_77 : List UInt8 := 4 :: t_Mr_value_78
abbrev t_Mr_value_74 : List UInt8 := 153 :: 0 :: 7 :: t_Mr_value_77
abbrev t_Mr_value_71 : List UInt8 := 182 :: 0 :: 139 :: t_Mr_value_74
abbrev t_Mr_value_70 : List UInt8 := 46 :: t_Mr_value_71
abbrev t_Mr_value_69 : List UInt8 := 27 :: t_Mr_value_70
abbrev t_Mr_value_66 : List UInt8 := 180 :: 0 :: 28 :: t_Mr_value_69
abbrev t_Mr_value_65 : List UInt8 := 42 :: t_Mr_value_66
abbrev t_Mr_value_64 : List UInt8 := 42 :: t_Mr_value_65
abbrev t_Mr_value_61 : List UInt8 := 153 :: 0 :: 20 :: t_Mr_value_64
abbrev t_Mr_value_58 : List UInt8 := 182 :: 0 :: 139 :: t_Mr_value_61
abbrev t_Mr_value_57 : List UInt8 := 46 :: t_Mr_value_58
abbrev t_Mr_value_56 : List UInt8 := 27 :: t_Mr_value_57
abbrev t_Mr_value_53 : List UInt8 := 180 :: 0 :: 25 :: t_Mr_value_56
abbrev t_Mr_value_52 : List UInt8 := 42 :: t_Mr_value_53
abbrev t_Mr_value_51 : List UInt8 := 42 :: t_Mr_value_52
abbrev t_Mr_value_50 : List UInt8 := 172 :: t_Mr_value_51
abbrev t_Mr_value_49 : List UInt8 := 3 :: t_Mr_value_50
abbrev t_Mr_value_46 : List UInt8 := 167 :: 0 :: 4 :: t_Mr_value_49
abbrev t_Mr_value_45 : List UInt8 := 4 :: t_Mr_value_46
abbrev t_Mr_value_42 : List UInt8 := 154 :: 0 :: 7 :: t_Mr_value_45
abbrev t_Mr_value_39 : List UInt8 := 182 :: 0 :: 139 :: t_Mr_value_42
abbrev t_Mr_value_38 : List UInt8 := 46 :: t_Mr_value_39
abbrev t_Mr_value_37 : List UInt8 := 27 :: t_Mr_value_38
abbrev t_Mr_value_34 : List UInt8 := 180 :: 0 :: 25 :: t_Mr_value_37
abbrev t_Mr_value_33 : List UInt8 := 42 :: t_Mr_value_34
abbrev t_Mr_value_32 : List UInt8 := 42 :: t_Mr_value_33
abbrev t_Mr_value_6 : List UInt8 := 170 :: 0 :: 0 :: 0 :: 0 :: 109 :: 0 :: 0 :: 0 :: 16 :: 0 :: 0 :: 0 :: 18 :: 0 :: 0 :: 0 :: 26 :: 0 :: 0 :: 0 :: 45 :: 0 :: 0 :: 0 :: 77 :: t_Mr_value_32
abbrev t_Mr_value_5 : List UInt8 := 46 :: t_Mr_value_6
abbrev t_Mr_value_4 : List UInt8 := 27 :: t_Mr_value_5
abbrev t_Mr_value_1 : List UInt8 := 180 :: 0 :: 22 :: t_Mr_value_4
abbrev t_Mr_value_0 : List UInt8 := 42 :: t_Mr_value_1
theorem a_Mr_value_0 : dk_at b_Mr_value 0 t_Mr_value_0 := dk_start (by decide +kernel)
theorem a_Mr_value_1 : dk_at b_Mr_value 1 t_Mr_value_1 := dk_go 1 a_Mr_value_0 rfl
theorem a_Mr_value_4 : dk_at b_Mr_value 4 t_Mr_value_4 := dk_go 3 a_Mr_value_1 rfl
theorem a_Mr_value_5 : dk_at b_Mr_value 5 t_Mr_value_5 := dk_go 1 a_Mr_value_4 rfl
theorem a_Mr_value_6 : dk_at b_Mr_value 6 t_Mr_value_6 := dk_go 1 a_Mr_value_5 rfl
theorem a_Mr_value_32 : dk_at b_Mr_value 32 t_Mr_value_32 := dk_go 26 a_Mr_value_6 rfl
theorem a_Mr_value_33 : dk_at b_Mr_value 33 t_Mr_value_33 := dk_go 1 a_Mr_value_32 rfl
theorem a_Mr_value_34 : dk_at b_Mr_value 34 t_Mr_value_34 := dk_go 1 a_Mr_value_33 rfl
theorem a_Mr_value_37 : dk_at b_Mr_value 37 t_Mr_value_37 := dk_go 3 a_Mr_value_34 rfl
theorem a_Mr_value_38 : dk_at b_Mr_value 38 t_Mr_value_38 := dk_go 1 a_Mr_value_37 rfl
theorem a_Mr_value_39 : dk_at b_Mr_value 39 t_Mr_value_39 := dk_go 1 a_Mr_value_38 rfl
theorem a_Mr_value_42 : dk_at b_Mr_value 42 t_Mr_value_42 := dk_go 3 a_Mr_value_39 rfl
theorem a_Mr_value_45 : dk_at b_Mr_value 45 t_Mr_value_45 := dk_go 3 a_Mr_value_42 rfl
theorem a_Mr_value_46 : dk_at b_Mr_value 46 t_Mr_value_46 := dk_go 1 a_Mr_value_45 rfl
theorem a_Mr_value_49 : dk_at b_Mr_value 49 t_Mr_value_49 := dk_go 3 a_Mr_value_46 rfl
theorem a_Mr_value_50 : dk_at b_Mr_value 50 t_Mr_value_50 := dk_go 1 a_Mr_value_49 rfl
theorem a_Mr_value_51 : dk_at b_Mr_value 51 t_Mr_value_51 := dk_go 1 a_Mr_value_50 rfl
theorem a_Mr_value_52 : dk_at b_Mr_value 52 t_Mr_value_52 := dk_go 1 a_Mr_value_51 rfl
theorem a_Mr_value_53 : dk_at b_Mr_value 53 t_Mr_value_53 := dk_go 1 a_Mr_value_52 rfl
theorem a_Mr_value_56 : dk_at b_Mr_value 56 t_Mr_value_56 := dk_go 3 a_Mr_value_53 rfl
theorem a_Mr_value_57 : dk_at b_Mr_value 57 t_Mr_value_57 := dk_go 1 a_Mr_value_56 rfl
theorem a_Mr_value_58 : dk_at b_Mr_value 58 t_Mr_value_58 := dk_go 1 a_Mr_value_57 rfl
theorem a_Mr_value_61 : dk_at b_Mr_value 61 t_Mr_value_61 := dk_go 3 a_Mr_value_58 rfl
theorem a_Mr_value_64 : dk_at b_Mr_value 64 t_Mr_value_64 := dk_go 3 a_Mr_value_61 rfl
theorem a_Mr_value_65 : dk_at b_Mr_value 65 t_Mr_value_65 := dk_go 1 a_Mr_value_64 rfl
theorem a_Mr_value_66 : dk_at b_Mr_value 66 t_Mr_value_66 := dk_go 1 a_Mr_value_65 rfl
theorem a_Mr_value_69 : dk_at b_Mr_value 69 t_Mr_value_69 := dk_go 3 a_Mr_value_66 rfl
theorem a_Mr_value_70 : dk_at b_Mr_value 70 t_Mr_value_70 := dk_go 1 a_Mr_value_69 rfl
theorem a_Mr_value_71 : dk_at b_Mr_value 71 t_Mr_value_71 := dk_go 1 a_Mr_value_70 rfl
theorem a_Mr_value_74 : dk_at b_Mr_value 74 t_Mr_value_74 := dk_go 3 a_Mr_value_71 rfl
theorem a_Mr_value_77 : dk_at b_Mr_value 77 t_Mr_value_77 := dk_go 3 a_Mr_value_74 rfl
theorem a_Mr_value_78 : dk_at b_Mr_value 78 t_Mr_value_78 := dk_go 1 a_Mr_value_77 rfl
theorem a_Mr_value_81 : dk_at b_Mr_value 81 t_Mr_value_81 := dk_go 3 a_Mr_value_78 rfl
theorem a_Mr_value_82 : dk_at b_Mr_value 82 t_Mr_value_82 := dk_go 1 a_Mr_value_81 rfl
theorem a_Mr_value_83 : dk_at b_Mr_value 83 t_Mr_value_83 := dk_go 1 a_Mr_value_82 rfl
theorem a_Mr_value_84 : dk_at b_Mr_value 84 t_Mr_value_84 := dk_go 1 a_Mr_value_83 rfl
theorem a_Mr_value_85 : dk_at b_Mr_value 85 t_Mr_value_85 := dk_go 1 a_Mr_value_84 rfl
theorem a_Mr_value_88 : dk_at b_Mr_value 88 t_Mr_value_88 := dk_go 3 a_Mr_value_85 rfl
theorem a_Mr_value_89 : dk_at b_Mr_value 89 t_Mr_value_89 := dk_go 1 a_Mr_value_88 rfl
theorem a_Mr_value_90 : dk_at b_Mr_value 90 t_Mr_value_90 := dk_go 1 a_Mr_value_89 rfl
theorem a_Mr_value_93 : dk_at b_Mr_value 93 t_Mr_value_93 := dk_go 3 a_Mr_value_90 rfl
theorem a_Mr_value_96 : dk_at b_Mr_value 96 t_Mr_value_96 := dk_go 3 a_Mr_value_93 rfl
theorem a_Mr_value_97 : dk_at b_Mr_value 97 t_Mr_value_97 := dk_go 1 a_Mr_value_96 rfl
theorem a_Mr_value_98 : dk_at b_Mr_value 98 t_Mr_value_98 := dk_go 1 a_Mr_value_97 rfl
theorem a_Mr_value_101 : dk_at b_Mr_value 101 t_Mr_value_101 := dk_go 3 a_Mr_value_98 rfl
theorem a_Mr_value_102 : dk_at b_Mr_value 102 t_Mr_value_102 := dk_go 1 a_Mr_value_101 rfl
theorem a_Mr_value_103 : dk_at b_Mr_value 103 t_Mr_value_103 := dk_go 1 a_Mr_value_102 rfl
theorem a_Mr_value_106 : dk_at b_Mr_value 106 t_Mr_value_106 := dk_go 3 a_Mr_value_103 rfl
theorem a_Mr_value_109 : dk_at b_Mr_value 109 t_Mr_value_109 := dk_go 3 a_Mr_value_106 rfl
theorem a_Mr_value_110 : dk_at b_Mr_value 110 t_Mr_value_110 := dk_go 1 a_Mr_value_109 rfl
theorem a_Mr_value_113 : dk_at b_Mr_value 113 t_Mr_value_113 := dk_go 3 a_Mr_value_110 rfl
theorem a_Mr_value_114 : dk_at b_Mr_value 114 t_Mr_value_114 := dk_go 1 a_Mr_value_113 rfl
theorem a_Mr_value_115 : dk_at b_Mr_value 115 t_Mr_value_115 := dk_go 1 a_Mr_value_114 rfl
theorem a_Mr_value_116 : dk_at b_Mr_value 116 t_Mr_value_116 := dk_go 1 a_Mr_value_115 rfl
theorem a_Mr_value_119 : dk_at b_Mr_value 119 t_Mr_value_119 := dk_go 3 a_Mr_value_116 rfl
theorem a_Mr_value_120 : dk_at b_Mr_value 120 t_Mr_value_120 := dk_go 1 a_Mr_value_119 rfl
theorem a_Mr_value_123 : dk_at b_Mr_value 123 t_Mr_value_123 := dk_go 3 a_Mr_value_120 rfl
theorem a_Mr_value_124 : dk_at b_Mr_value 124 t_Mr_value_124 := dk_go 1 a_Mr_value_123 rfl
theorem a_Mr_value_125 : dk_at b_Mr_value 125 t_Mr_value_125 := dk_go 1 a_Mr_value_124 rfl
theorem a_Mr_value_126 : dk_at b_Mr_value 126 t_Mr_value_126 := dk_go 1 a_Mr_value_125 rfl
theorem a_Mr_value_127 : dk_at b_Mr_value 127 t_Mr_value_127 := dk_go 1 a_Mr_value_126 rfl
theorem a_Mr_value_128 : dk_at b_Mr_value 128 t_Mr_value_128 := dk_go 1 a_Mr_value_127 rfl
theorem a_Mr_value_129 : dk_at b_Mr_value 129 t_Mr_value_129 := dk_go 1 a_Mr_value_128 rfl
theorem a_Mr_value_132 : dk_at b_Mr_value 132 t_Mr_value_132 := dk_go 3 a_Mr_value_129 rfl
theorem a_Mr_value_133 : dk_at b_Mr_value 133 t_Mr_value_133 := dk_go 1 a_Mr_value_132 rfl
theorem a_Mr_value_136 : dk_at b_Mr_value 136 t_Mr_value_136 := dk_go 3 a_Mr_value_133 rfl
theorem a_Mr_value_137 : dk_at b_Mr_value 137 t_Mr_value_137 := dk_go 1 a_Mr_value_136 rfl
theorem d_Mr_value_0 : decode b_Mr_value 0 = .ok (.aload_n 0, 1) := dk_0 a_Mr_value_0 (dko_42 _)
theorem d_Mr_value_1 : decode b_Mr_value 1 = .ok (.getfield 22, 3) := dk_U2 a_Mr_value_1 (dko_180 _) rfl
theorem d_Mr_value_4 : decode b_Mr_value 4 = .ok (.iload_n 1, 1) := dk_0 a_Mr_value_4 (dko_27 _)
theorem d_Mr_value_5 : decode b_Mr_value 5 = .ok (.iaload, 1) := dk_0 a_Mr_value_5 (dko_46 _)
theorem d_Mr_value_6 : decode b_Mr_value 6 = .ok (.tableswitch 109 16 18 #[26, 45, 77], 26) := by decide +kernel
theorem d_Mr_value_32 : decode b_Mr_value 32 = .ok (.aload_n 0, 1) := dk_0 a_Mr_value_32 (dko_42 _)
theorem d_Mr_value_33 : decode b_Mr_value 33 = .ok (.aload_n 0, 1) := dk_0 a_Mr_value_33 (dko_42 _)
theorem d_Mr_value_34 : decode b_Mr_value 34 = .ok (.getfield 25, 3) := dk_U2 a_Mr_value_34 (dko_180 _) rfl
theorem d_Mr_value_37 : decode b_Mr_value 37 = .ok (.iload_n 1, 1) := dk_0 a_Mr_value_37 (dko_27 _)
theorem d_Mr_value_38 : decode b_Mr_value 38 = .ok (.iaload, 1) := dk_0 a_Mr_value_38 (dko_46 _)
theorem d_Mr_value_39 : decode b_Mr_value 39 = .ok (.invokevirtual 139, 3) := dk_U2 a_Mr_value_39 (dko_182 _) rfl
theorem d_Mr_value_42 : decode b_Mr_value 42 = .ok (.ifCond .ne 7, 3) := dk_S2 a_Mr_value_42 (dko_154 _) (by decide +kernel)
theorem d_Mr_value_45 : decode b_Mr_value 45 = .ok (.iconst 1, 1) := dk_0 a_Mr_value_45 (dko_4 _)
theorem d_Mr_value_46 : decode b_Mr_value 46 = .ok (.goto 4, 3) := dk_S2 a_Mr_value_46 (dko_167 _) (by decide +kernel)
theorem d_Mr_value_49 : decode b_Mr_value 49 = .ok (.iconst 0, 1) := dk_0 a_Mr_value_49 (dko_3 _)
theorem d_Mr_value_50 : decode b_Mr_value 50 = .ok (.ireturn, 1) := dk_0 a_Mr_value_50 (dko_172 _)
theorem d_Mr_value_51 : decode b_Mr_value 51 = .ok (.aload_n 0, 1) := dk_0 a_Mr_value_51 (dko_42 _)
theorem d_Mr_value_52 : decode b_Mr_value 52 = .ok (.aload_n 0, 1) := dk_0 a_Mr_value_52 (dko_42 _)
theorem d_Mr_value_53 : decode b_Mr_value 53 = .ok (.getfield 25, 3) := dk_U2 a_Mr_value_53 (dko_180 _) rfl
theorem d_Mr_value_56 : decode b_Mr_value 56 = .ok (.iload_n 1, 1) := dk_0 a_Mr_value_56 (dko_27 _)
theorem d_Mr_value_57 : decode b_Mr_value 57 = .ok (.iaload, 1) := dk_0 a_Mr_value_57 (dko_46 _)
theorem d_Mr_value_58 : decode b_Mr_value 58 = .ok (.invokevirtual 139, 3) := dk_U2 a_Mr_value_58 (dko_182 _) rfl
theorem d_Mr_value_61 : decode b_Mr_value 61 = .ok (.ifCond .eq 20, 3) := dk_S2 a_Mr_value_61 (dko_153 _) (by decide +kernel)
theorem d_Mr_value_64 : decode b_Mr_value 64 = .ok (.aload_n 0, 1) := dk_0 a_Mr_value_64 (dko_42 _)
theorem d_Mr_value_65 : decode b_Mr_value 65 = .ok (.aload_n 0, 1) := dk_0 a_Mr_value_65 (dko_42 _)
theorem d_Mr_value_66 : decode b_Mr_value 66 = .ok (.getfield 28, 3) := dk_U2 a_Mr_value_66 (dko_180 _) rfl
theorem d_Mr_value_69 : decode b_Mr_value 69 = .ok (.iload_n 1, 1) := dk_0 a_Mr_value_69 (dko_27 _)
theorem d_Mr_value_70 : decode b_Mr_value 70 = .ok (.iaload, 1) := dk_0 a_Mr_value_70 (dko_46 _)
theorem d_Mr_value_71 : decode b_Mr_value 71 = .ok (.invokevirtual 139, 3) := dk_U2 a_Mr_value_71 (dko_182 _) rfl
theorem d_Mr_value_74 : decode b_Mr_value 74 = .ok (.ifCond .eq 7, 3) := dk_S2 a_Mr_value_74 (dko_153 _) (by decide +kernel)
theorem d_Mr_value_77 : decode b_Mr_value 77 = .ok (.iconst 1, 1) := dk_0 a_Mr_value_77 (dko_4 _)
theorem d_Mr_value_78 : decode b_Mr_value 78 = .ok (.goto 4, 3) := dk_S2 a_Mr_value_78 (dko_167 _) (by decide +kernel)
theorem d_Mr_value_81 : decode b_Mr_value 81 = .ok (.iconst 0, 1) := dk_0 a_Mr_value_81 (dko_3 _)
theorem d_Mr_value_82 : decode b_Mr_value 82 = .ok (.ireturn, 1) := dk_0 a_Mr_value_82 (dko_172 _)
theorem d_Mr_value_83 : decode b_Mr_value 83 = .ok (.aload_n 0, 1) := dk_0 a_Mr_value_83 (dko_42 _)
theorem d_Mr_value_84 : decode b_Mr_value 84 = .ok (.aload_n 0, 1) := dk_0 a_Mr_value_84 (dko_42 _)
theorem d_Mr_value_85 : decode b_Mr_value 85 = .ok (.getfield 25, 3) := dk_U2 a_Mr_value_85 (dko_180 _) rfl
theorem d_Mr_value_88 : decode b_Mr_value 88 = .ok (.iload_n 1, 1) := dk_0 a_Mr_value_88 (dko_27 _)
theorem d_Mr_value_89 : decode b_Mr_value 89 = .ok (.iaload, 1) := dk_0 a_Mr_value_89 (dko_46 _)
theorem d_Mr_value_90 : decode b_Mr_value 90 = .ok (.invokevirtual 139, 3) := dk_U2 a_Mr_value_90 (dko_182 _) rfl
theorem d_Mr_value_93 : decode b_Mr_value 93 = .ok (.ifCond .ne 16, 3) := dk_S2 a_Mr_value_93 (dko_154 _) (by decide +kernel)
theorem d_Mr_value_96 : decode b_Mr_value 96 = .ok (.aload_n 0, 1) := dk_0 a_Mr_value_96 (dko_42 _)
theorem d_Mr_value_97 : decode b_Mr_value 97 = .ok (.aload_n 0, 1) := dk_0 a_Mr_value_97 (dko_42 _)
theorem d_Mr_value_98 : decode b_Mr_value 98 = .ok (.getfield 28, 3) := dk_U2 a_Mr_value_98 (dko_180 _) rfl
theorem d_Mr_value_101 : decode b_Mr_value 101 = .ok (.iload_n 1, 1) := dk_0 a_Mr_value_101 (dko_27 _)
theorem d_Mr_value_102 : decode b_Mr_value 102 = .ok (.iaload, 1) := dk_0 a_Mr_value_102 (dko_46 _)
theorem d_Mr_value_103 : decode b_Mr_value 103 = .ok (.invokevirtual 139, 3) := dk_U2 a_Mr_value_103 (dko_182 _) rfl
theorem d_Mr_value_106 : decode b_Mr_value 106 = .ok (.ifCond .eq 7, 3) := dk_S2 a_Mr_value_106 (dko_153 _) (by decide +kernel)
theorem d_Mr_value_109 : decode b_Mr_value 109 = .ok (.iconst 1, 1) := dk_0 a_Mr_value_109 (dko_4 _)
theorem d_Mr_value_110 : decode b_Mr_value 110 = .ok (.goto 4, 3) := dk_S2 a_Mr_value_110 (dko_167 _) (by decide +kernel)
theorem d_Mr_value_113 : decode b_Mr_value 113 = .ok (.iconst 0, 1) := dk_0 a_Mr_value_113 (dko_3 _)
theorem d_Mr_value_114 : decode b_Mr_value 114 = .ok (.ireturn, 1) := dk_0 a_Mr_value_114 (dko_172 _)
theorem d_Mr_value_115 : decode b_Mr_value 115 = .ok (.aload_n 0, 1) := dk_0 a_Mr_value_115 (dko_42 _)
theorem d_Mr_value_116 : decode b_Mr_value 116 = .ok (.getfield 136, 3) := dk_U2 a_Mr_value_116 (dko_180 _) rfl
theorem d_Mr_value_119 : decode b_Mr_value 119 = .ok (.aload_n 0, 1) := dk_0 a_Mr_value_119 (dko_42 _)
theorem d_Mr_value_120 : decode b_Mr_value 120 = .ok (.getfield 22, 3) := dk_U2 a_Mr_value_120 (dko_180 _) rfl
theorem d_Mr_value_123 : decode b_Mr_value 123 = .ok (.iload_n 1, 1) := dk_0 a_Mr_value_123 (dko_27 _)
theorem d_Mr_value_124 : decode b_Mr_value 124 = .ok (.iaload, 1) := dk_0 a_Mr_value_124 (dko_46 _)
theorem d_Mr_value_125 : decode b_Mr_value 125 = .ok (.ishr, 1) := dk_0 a_Mr_value_125 (dko_122 _)
theorem d_Mr_value_126 : decode b_Mr_value 126 = .ok (.iconst 1, 1) := dk_0 a_Mr_value_126 (dko_4 _)
theorem d_Mr_value_127 : decode b_Mr_value 127 = .ok (.iand, 1) := dk_0 a_Mr_value_127 (dko_126 _)
theorem d_Mr_value_128 : decode b_Mr_value 128 = .ok (.iconst 1, 1) := dk_0 a_Mr_value_128 (dko_4 _)
theorem d_Mr_value_129 : decode b_Mr_value 129 = .ok (.if_icmp .ne 7, 3) := dk_S2 a_Mr_value_129 (dko_160 _) (by decide +kernel)
theorem d_Mr_value_132 : decode b_Mr_value 132 = .ok (.iconst 1, 1) := dk_0 a_Mr_value_132 (dko_4 _)
theorem d_Mr_value_133 : decode b_Mr_value 133 = .ok (.goto 4, 3) := dk_S2 a_Mr_value_133 (dko_167 _) (by decide +kernel)
theorem d_Mr_value_136 : decode b_Mr_value 136 = .ok (.iconst 0, 1) := dk_0 a_Mr_value_136 (dko_3 _)
theorem d_Mr_value_137 : decode b_Mr_value 137 = .ok (.ireturn, 1) := dk_0 a_Mr_value_137 (dko_172 _)
set_option maxHeartbeats 4000000 in
set_option maxRecDepth 100000 in
theorem ok_Mr_value (pc : Nat) : OpS mt mi_Mr_value pc (cs_Mr_value pc) := (os_n (os_n (os_n (os_n (os_n (os_n (os_l (so_aload_n d_Mr_value_0 rfl)) (os_l (so_get (C := R_Mr) (T := F_Mr) (N := 25) (j := 8) in_Mr rfl (by decide) mw_1720 d_Mr_value_1))) (os_n (os_l (so_iload_n d_Mr_value_4 rfl)) (os_l (so_iaload d_Mr_value_5)))) (os_n (os_n (os_l (so_tab d_Mr_value_6 (by decide) (by decide) (by decide))) (os_l (so_aload_n d_Mr_value_32 rfl))) (os_n (os_l (so_aload_n d_Mr_value_33 rfl)) (os_l (so_get (C := R_Mr) (T := F_Mr) (N := 25) (j := 9) in_Mr rfl (by decide) mw_1721 d_Mr_value_34))))) (os_n (os_n (os_n (os_l (so_iload_n d_Mr_value_37 rfl)) (os_l (so_iaload d_Mr_value_38))) (os_n (os_l (so_callV (iv := mi_Mr_value) rfl rfl rfl mw_2486 mw_2488 sl_164 mw_20 mw_2489 ⟨by decide +kernel, by decide +kernel, by decide +kernel⟩ (by decide) d_Mr_value_39)) (os_l (so_ifne d_Mr_value_42 (by decide))))) (os_n (os_n (os_l (so_iconst d_Mr_value_45 (by decide))) (os_l (so_goto d_Mr_value_46 (by decide)))) (os_n (os_l (so_iconst d_Mr_value_49 (by decide))) (os_l (so_zreturn rfl d_Mr_value_50)))))) (os_n (os_n (os_n (os_n (os_l (so_aload_n d_Mr_value_51 rfl)) (os_l (so_aload_n d_Mr_value_52 rfl))) (os_n (os_l (so_get (C := R_Mr) (T := F_Mr) (N := 25) (j := 9) in_Mr rfl (by decide) mw_1721 d_Mr_value_53)) (os_l (so_iload_n d_Mr_value_56 rfl)))) (os_n (os_n (os_l (so_iaload d_Mr_value_57)) (os_l (so_callV (iv := mi_Mr_value) rfl rfl rfl mw_2486 mw_2488 sl_164 mw_20 mw_2489 ⟨by decide +kernel, by decide +kernel, by decide +kernel⟩ (by decide) d_Mr_value_58))) (os_n (os_l (so_ifeq d_Mr_value_61 (by decide))) (os_l (so_aload_n d_Mr_value_64 rfl))))) (os_n (os_n (os_n (os_l (so_aload_n d_Mr_value_65 rfl)) (os_l (so_get (C := R_Mr) (T := F_Mr) (N := 25) (j := 10) in_Mr rfl (by decide) mw_1722 d_Mr_value_66))) (os_n (os_l (so_iload_n d_Mr_value_69 rfl)) (os_l (so_iaload d_Mr_value_70)))) (os_n (os_n (os_l (so_callV (iv := mi_Mr_value) rfl rfl rfl mw_2486 mw_2488 sl_164 mw_20 mw_2489 ⟨by decide +kernel, by decide +kernel, by decide +kernel⟩ (by decide) d_Mr_value_71)) (os_l (so_ifeq d_Mr_value_74 (by decide)))) (os_n (os_l (so_iconst d_Mr_value_77 (by decide))) (os_n (os_l (so_goto d_Mr_value_78 (by decide))) (os_l (so_iconst d_Mr_value_81 (by decide))))))))) (os_n (os_n (os_n (os_n (os_n (os_l (so_zreturn rfl d_Mr_value_82)) (os_l (so_aload_n d_Mr_value_83 rfl))) (os_n (os_l (so_aload_n d_Mr_value_84 rfl)) (os_l (so_get (C := R_Mr) (T := F_Mr) (N := 25) (j := 9) in_Mr rfl (by decide) mw_1721 d_Mr_value_85)))) (os_n (os_n (os_l (so_iload_n d_Mr_value_88 rfl)) (os_l (so_iaload d_Mr_value_89))) (os_n (os_l (so_callV (iv := mi_Mr_value) rfl rfl rfl mw_2486 mw_2488 sl_164 mw_20 mw_2489 ⟨by decide +kernel, by decide +kernel, by decide +kernel⟩ (by decide) d_Mr_value_90)) (os_l (so_ifne d_Mr_value_93 (by decide)))))) (os_n (os_n (os_n (os_l (so_aload_n d_Mr_value_96 rfl)) (os_l (so_aload_n d_Mr_value_97 rfl))) (os_n (os_l (so_get (C := R_Mr) (T := F_Mr) (N := 25) (j := 10) in_Mr rfl (by decide) mw_1722 d_Mr_value_98)) (os_l (so_iload_n d_Mr_value_101 rfl)))) (os_n (os_n (os_l (so_iaload d_Mr_value_102)) (os_l (so_callV (iv := mi_Mr_value) rfl rfl rfl mw_2486 mw_2488 sl_164 mw_20 mw_2489 ⟨by decide +kernel, by decide +kernel, by decide +kernel⟩ (by decide) d_Mr_value_103))) (os_n (os_l (so_ifeq d_Mr_value_106 (by decide))) (os_n (os_l (so_iconst d_Mr_value_109 (by decide))) (os_l (so_goto d_Mr_value_110 (by decide)))))))) (os_n (os_n (os_n (os_n (os_l (so_iconst d_Mr_value_113 (by decide))) (os_l (so_zreturn rfl d_Mr_value_114))) (os_n (os_l (so_aload_n d_Mr_value_115 rfl)) (os_l (so_get (C := R_Mr) (T := F_Mr) (N := 25) (j := 24) in_Mr rfl (by decide) mw_1740 d_Mr_value_116)))) (os_n (os_n (os_l (so_aload_n d_Mr_value_119 rfl)) (os_l (so_get (C := R_Mr) (T := F_Mr) (N := 25) (j := 8) in_Mr rfl (by decide) mw_1720 d_Mr_value_120))) (os_n (os_l (so_iload_n d_Mr_value_123 rfl)) (os_l (so_iaload d_Mr_value_124))))) (os_n (os_n (os_n (os_l (so_ishr d_Mr_value_125)) (os_l (so_iconst d_Mr_value_126 (by decide)))) (os_n (os_l (so_iand d_Mr_value_127)) (os_l (so_iconst d_Mr_value_128 (by decide))))) (os_n (os_n (os_l (so_icne d_Mr_value_129 (by decide))) (os_l (so_iconst d_Mr_value_132 (by decide)))) (os_n (os_l (so_goto d_Mr_value_133 (by decide))) (os_n (os_l (so_iconst d_Mr_value_136 (by decide))) (os_l (so_zreturn rfl d_Mr_value_137)))))))))
abbrev t_Mr_isOn_18 : List UInt8 := 172 :: []
abbrev t_Mr_isOn_15 : List UInt8 := 182 :: 0 :: 139 :: t_Mr_isOn_18
abbrev t_Mr_isOn_14 : List UInt8 := 46 :: t_Mr_isOn_15
abbrev t_Mr_isOn_13 : List UInt8 := 96 :: t_Mr_isOn_14
abbrev t_Mr_isOn_12 : List UInt8 := 27 :: t_Mr_isOn_13
abbrev t_Mr_isOn_11 : List UInt8 := 104 :: t_Mr_isOn_12
abbrev t_Mr_isOn_8 : List UInt8 := 180 :: 0 :: 85 :: t_Mr_isOn_11
abbrev t_Mr_isOn_7 : List UInt8 := 42 :: t_Mr_isOn_8
abbrev t_Mr_isOn_5 : List UInt8 := 16 :: 40 :: t_Mr_isOn_7
abbrev t_Mr_isOn_2 : List UInt8 := 180 :: 0 :: 31 :: t_Mr_isOn_5
abbrev t_Mr_isOn_1 : List UInt8 := 42 :: t_Mr_isOn_2
abbrev t_Mr_isOn_0 : List UInt8 := 42 :: t_Mr_isOn_1
theorem a_Mr_isOn_0 : dk_at b_Mr_isOn 0 t_Mr_isOn_0 := dk_start (by decide +kernel)
theorem a_Mr_isOn_1 : dk_at b_Mr_isOn 1 t_Mr_isOn_1 := dk_go 1 a_Mr_isOn_0 rfl
theorem a_Mr_isOn_2 : dk_at b_Mr_isOn 2 t_Mr_isOn_2 := dk_go 1 a_Mr_isOn_1 rfl
theorem a_Mr_isOn_5 : dk_at b_Mr_isOn 5 t_Mr_isOn_5 := dk_go 3 a_Mr_isOn_2 rfl
theorem a_Mr_isOn_7 : dk_at b_Mr_isOn 7 t_Mr_isOn_7 := dk_go 2 a_Mr_isOn_5 rfl
theorem a_Mr_isOn_8 : dk_at b_Mr_isOn 8 t_Mr_isOn_8 := dk_go 1 a_Mr_isOn_7 rfl
theorem a_Mr_isOn_11 : dk_at b_Mr_isOn 11 t_Mr_isOn_11 := dk_go 3 a_Mr_isOn_8 rfl
theorem a_Mr_isOn_12 : dk_at b_Mr_isOn 12 t_Mr_isOn_12 := dk_go 1 a_Mr_isOn_11 rfl
theorem a_Mr_isOn_13 : dk_at b_Mr_isOn 13 t_Mr_isOn_13 := dk_go 1 a_Mr_isOn_12 rfl
theorem a_Mr_isOn_14 : dk_at b_Mr_isOn 14 t_Mr_isOn_14 := dk_go 1 a_Mr_isOn_13 rfl
theorem a_Mr_isOn_15 : dk_at b_Mr_isOn 15 t_Mr_isOn_15 := dk_go 1 a_Mr_isOn_14 rfl
theorem a_Mr_isOn_18 : dk_at b_Mr_isOn 18 t_Mr_isOn_18 := dk_go 3 a_Mr_isOn_15 rfl
theorem d_Mr_isOn_0 : decode b_Mr_isOn 0 = .ok (.aload_n 0, 1) := dk_0 a_Mr_isOn_0 (dko_42 _)
theorem d_Mr_isOn_1 : decode b_Mr_isOn 1 = .ok (.aload_n 0, 1) := dk_0 a_Mr_isOn_1 (dko_42 _)
theorem d_Mr_isOn_2 : decode b_Mr_isOn 2 = .ok (.getfield 31, 3) := dk_U2 a_Mr_isOn_2 (dko_180 _) rfl
theorem d_Mr_isOn_5 : decode b_Mr_isOn 5 = .ok (.bipush 40, 2) := dk_S1 a_Mr_isOn_5 (dko_16 _) (by decide +kernel)
theorem d_Mr_isOn_7 : decode b_Mr_isOn 7 = .ok (.aload_n 0, 1) := dk_0 a_Mr_isOn_7 (dko_42 _)
theorem d_Mr_isOn_8 : decode b_Mr_isOn 8 = .ok (.getfield 85, 3) := dk_U2 a_Mr_isOn_8 (dko_180 _) rfl
theorem d_Mr_isOn_11 : decode b_Mr_isOn 11 = .ok (.imul, 1) := dk_0 a_Mr_isOn_11 (dko_104 _)
theorem d_Mr_isOn_12 : decode b_Mr_isOn 12 = .ok (.iload_n 1, 1) := dk_0 a_Mr_isOn_12 (dko_27 _)
theorem d_Mr_isOn_13 : decode b_Mr_isOn 13 = .ok (.iadd, 1) := dk_0 a_Mr_isOn_13 (dko_96 _)
theorem d_Mr_isOn_14 : decode b_Mr_isOn 14 = .ok (.iaload, 1) := dk_0 a_Mr_isOn_14 (dko_46 _)
theorem d_Mr_isOn_15 : decode b_Mr_isOn 15 = .ok (.invokevirtual 139, 3) := dk_U2 a_Mr_isOn_15 (dko_182 _) rfl
theorem d_Mr_isOn_18 : decode b_Mr_isOn 18 = .ok (.ireturn, 1) := dk_0 a_Mr_isOn_18 (dko_172 _)
set_option maxHeartbeats 4000000 in
set_option maxRecDepth 100000 in
theorem ok_Mr_isOn (pc : Nat) : OpS mt mi_Mr_isOn pc (cs_Mr_isOn pc) := (os_n (os_n (os_n (os_l (so_aload_n d_Mr_isOn_0 rfl)) (os_n (os_l (so_aload_n d_Mr_isOn_1 rfl)) (os_l (so_get (C := R_Mr) (T := F_Mr) (N := 25) (j := 14) in_Mr rfl (by decide) mw_1726 d_Mr_isOn_2)))) (os_n (os_l (so_bipush d_Mr_isOn_5 (by decide))) (os_n (os_l (so_aload_n d_Mr_isOn_7 rfl)) (os_l (so_get (C := R_Mr) (T := F_Mr) (N := 25) (j := 12) in_Mr rfl (by decide) mw_1724 d_Mr_isOn_8))))) (os_n (os_n (os_l (so_imul d_Mr_isOn_11)) (os_n (os_l (so_iload_n d_Mr_isOn_12 rfl)) (os_l (so_iadd d_Mr_isOn_13)))) (os_n (os_l (so_iaload d_Mr_isOn_14)) (os_n (os_l (so_callV (iv := mi_Mr_value) rfl rfl rfl mw_2486 mw_2488 sl_164 mw_20 mw_2489 ⟨by decide +kernel, by decide +kernel, by decide +kernel⟩ (by decide) d_Mr_isOn_15)) (os_l (so_zreturn rfl d_Mr_isOn_18))))))
abbrev t_Mr_tick_165 : List UInt8 := 172 :: []
abbrev t_Mr_tick_164 : List UInt8 := 4 :: t_Mr_tick_165
abbrev t_Mr_tick_161 : List UInt8 := 167 :: 255 :: 109 :: t_Mr_tick_164
abbrev t_Mr_tick_158 : List UInt8 := 132 :: 2 :: 1 :: t_Mr_tick_161
abbrev t_Mr_tick_157 : List UInt8 := 79 :: t_Mr_tick_158
abbrev t_Mr_tick_156 : List UInt8 := 3 :: t_Mr_tick_157
abbrev t_Mr_tick_153 : List UInt8 := 167 :: 0 :: 4 :: t_Mr_tick_156
abbrev t_Mr_tick_152 : List UInt8 := 100 :: t_Mr_tick_153
abbrev t_Mr_tick_151 : List UInt8 := 27 :: t_Mr_tick_152
abbrev t_Mr_tick_150 : List UInt8 := 46 :: t_Mr_tick_151
abbrev t_Mr_tick_149 : List UInt8 := 28 :: t_Mr_tick_150
abbrev t_Mr_tick_146 : List UInt8 := 180 :: 0 :: 56 :: t_Mr_tick_149
abbrev t_Mr_tick_145 : List UInt8 := 42 :: t_Mr_tick_146
abbrev t_Mr_tick_142 : List UInt8 := 164 :: 0 :: 14 :: t_Mr_tick_145
abbrev t_Mr_tick_141 : List UInt8 := 27 :: t_Mr_tick_142
abbrev t_Mr_tick_140 : List UInt8 := 46 :: t_Mr_tick_141
abbrev t_Mr_tick_139 : List UInt8 := 28 :: t_Mr_tick_140
abbrev t_Mr_tick_136 : List UInt8 := 180 :: 0 :: 56 :: t_Mr_tick_139
abbrev t_Mr_tick_135 : List UInt8 := 42 :: t_Mr_tick_136
abbrev t_Mr_tick_134 : List UInt8 := 28 :: t_Mr_tick_135
abbrev t_Mr_tick_131 : List UInt8 := 180 :: 0 :: 56 :: t_Mr_tick_134
abbrev t_Mr_tick_130 : List UInt8 := 42 :: t_Mr_tick_131
abbrev t_Mr_tick_129 : List UInt8 := 84 :: t_Mr_tick_130
abbrev t_Mr_tick_128 : List UInt8 := 128 :: t_Mr_tick_129
abbrev t_Mr_tick_127 : List UInt8 := 3 :: t_Mr_tick_128
abbrev t_Mr_tick_124 : List UInt8 := 167 :: 0 :: 4 :: t_Mr_tick_127
abbrev t_Mr_tick_123 : List UInt8 := 4 :: t_Mr_tick_124
abbrev t_Mr_tick_120 : List UInt8 := 161 :: 0 :: 7 :: t_Mr_tick_123
abbrev t_Mr_tick_119 : List UInt8 := 46 :: t_Mr_tick_120
abbrev t_Mr_tick_118 : List UInt8 := 96 :: t_Mr_tick_119
abbrev t_Mr_tick_117 : List UInt8 := 28 :: t_Mr_tick_118
abbrev t_Mr_tick_116 : List UInt8 := 104 :: t_Mr_tick_117
abbrev t_Mr_tick_113 : List UInt8 := 180 :: 0 :: 85 :: t_Mr_tick_116
abbrev t_Mr_tick_112 : List UInt8 := 42 :: t_Mr_tick_113
abbrev t_Mr_tick_110 : List UInt8 := 16 :: 40 :: t_Mr_tick_112
abbrev t_Mr_tick_107 : List UInt8 := 180 :: 0 :: 40 :: t_Mr_tick_110
abbrev t_Mr_tick_106 : List UInt8 := 42 :: t_Mr_tick_107
abbrev t_Mr_tick_105 : List UInt8 := 46 :: t_Mr_tick_106
abbrev t_Mr_tick_104 : List UInt8 := 28 :: t_Mr_tick_105
abbrev t_Mr_tick_101 : List UInt8 := 180 :: 0 :: 50 :: t_Mr_tick_104
abbrev t_Mr_tick_100 : List UInt8 := 42 :: t_Mr_tick_101
abbrev t_Mr_tick_97 : List UInt8 := 153 :: 0 :: 30 :: t_Mr_tick_100
abbrev t_Mr_tick_96 : List UInt8 := 51 :: t_Mr_tick_97
abbrev t_Mr_tick_95 : List UInt8 := 96 :: t_Mr_tick_96
abbrev t_Mr_tick_94 : List UInt8 := 28 :: t_Mr_tick_95
abbrev t_Mr_tick_93 : List UInt8 := 104 :: t_Mr_tick_94
abbrev t_Mr_tick_90 : List UInt8 := 180 :: 0 :: 85 :: t_Mr_tick_93
abbrev t_Mr_tick_89 : List UInt8 := 42 :: t_Mr_tick_90
abbrev t_Mr_tick_87 : List UInt8 := 16 :: 40 :: t_Mr_tick_89
abbrev t_Mr_tick_84 : List UInt8 := 180 :: 0 :: 43 :: t_Mr_tick_87
abbrev t_Mr_tick_83 : List UInt8 := 42 :: t_Mr_tick_84
abbrev t_Mr_tick_80 : List UInt8 := 153 :: 0 :: 47 :: t_Mr_tick_83
abbrev t_Mr_tick_79 : List UInt8 := 29 :: t_Mr_tick_80
abbrev t_Mr_tick_78 : List UInt8 := 51 :: t_Mr_tick_79
abbrev t_Mr_tick_77 : List UInt8 := 92 :: t_Mr_tick_78
abbrev t_Mr_tick_76 : List UInt8 := 28 :: t_Mr_tick_77
abbrev t_Mr_tick_73 : List UInt8 := 180 :: 0 :: 53 :: t_Mr_tick_76
abbrev t_Mr_tick_72 : List UInt8 := 42 :: t_Mr_tick_73
abbrev t_Mr_tick_71 : List UInt8 := 79 :: t_Mr_tick_72
abbrev t_Mr_tick_70 : List UInt8 := 96 :: t_Mr_tick_71
abbrev t_Mr_tick_69 : List UInt8 := 27 :: t_Mr_tick_70
abbrev t_Mr_tick_68 : List UInt8 := 46 :: t_Mr_tick_69
abbrev t_Mr_tick_67 : List UInt8 := 28 :: t_Mr_tick_68
abbrev t_Mr_tick_64 : List UInt8 := 180 :: 0 :: 50 :: t_Mr_tick_67
abbrev t_Mr_tick_63 : List UInt8 := 42 :: t_Mr_tick_64
abbrev t_Mr_tick_60 : List UInt8 := 167 :: 0 :: 11 :: t_Mr_tick_63
abbrev t_Mr_tick_58 : List UInt8 := 18 :: 146 :: t_Mr_tick_60
abbrev t_Mr_tick_55 : List UInt8 := 164 :: 0 :: 8 :: t_Mr_tick_58
abbrev t_Mr_tick_53 : List UInt8 := 18 :: 146 :: t_Mr_tick_55
abbrev t_Mr_tick_52 : List UInt8 := 96 :: t_Mr_tick_53
abbrev t_Mr_tick_51 : List UInt8 := 27 :: t_Mr_tick_52
abbrev t_Mr_tick_50 : List UInt8 := 46 :: t_Mr_tick_51
abbrev t_Mr_tick_49 : List UInt8 := 28 :: t_Mr_tick_50
abbrev t_Mr_tick_46 : List UInt8 := 180 :: 0 :: 50 :: t_Mr_tick_49
abbrev t_Mr_tick_45 : List UInt8 := 42 :: t_Mr_tick_46
abbrev t_Mr_tick_42 : List UInt8 := 167 :: 0 :: 29 :: t_Mr_tick_45
abbrev t_Mr_tick_41 : List UInt8 := 3 :: t_Mr_tick_42
abbrev t_Mr_tick_38 : List UInt8 := 154 :: 0 :: 7 :: t_Mr_tick_41
abbrev t_Mr_tick_37 : List UInt8 := 29 :: t_Mr_tick_38
abbrev t_Mr_tick_36 : List UInt8 := 28 :: t_Mr_tick_37
abbrev t_Mr_tick_33 : List UInt8 := 180 :: 0 :: 50 :: t_Mr_tick_36
abbrev t_Mr_tick_32 : List UInt8 := 42 :: t_Mr_tick_33
abbrev t_Mr_tick_31 : List UInt8 := 62 :: t_Mr_tick_32
abbrev t_Mr_tick_28 : List UInt8 := 182 :: 0 :: 143 :: t_Mr_tick_31
abbrev t_Mr_tick_27 : List UInt8 := 28 :: t_Mr_tick_28
abbrev t_Mr_tick_26 : List UInt8 := 42 :: t_Mr_tick_27
abbrev t_Mr_tick_23 : List UInt8 := 158 :: 0 :: 141 :: t_Mr_tick_26
abbrev t_Mr_tick_22 : List UInt8 := 27 :: t_Mr_tick_23
abbrev t_Mr_tick_19 : List UInt8 := 162 :: 0 :: 145 :: t_Mr_tick_22
abbrev t_Mr_tick_16 : List UInt8 := 180 :: 0 :: 133 :: t_Mr_tick_19
abbrev t_Mr_tick_15 : List UInt8 := 42 :: t_Mr_tick_16
abbrev t_Mr_tick_14 : List UInt8 := 28 :: t_Mr_tick_15
abbrev t_Mr_tick_13 : List UInt8 := 61 :: t_Mr_tick_14
abbrev t_Mr_tick_12 : List UInt8 := 3 :: t_Mr_tick_13
abbrev t_Mr_tick_11 : List UInt8 := 172 :: t_Mr_tick_12
abbrev t_Mr_tick_10 : List UInt8 := 3 :: t_Mr_tick_11
abbrev t_Mr_tick_7 : List UInt8 := 164 :: 0 :: 5 :: t_Mr_tick_10
abbrev t_Mr_tick_5 : List UInt8 := 18 :: 142 :: t_Mr_tick_7
abbrev t_Mr_tick_4 : List UInt8 := 27 :: t_Mr_tick_5
abbrev t_Mr_tick_1 : List UInt8 := 155 :: 0 :: 9 :: t_Mr_tick_4
abbrev t_Mr_tick_0 : List UInt8 := 27 :: t_Mr_tick_1
theorem a_Mr_tick_0 : dk_at b_Mr_tick 0 t_Mr_tick_0 := dk_start (by decide +kernel)
theorem a_Mr_tick_1 : dk_at b_Mr_tick 1 t_Mr_tick_1 := dk_go 1 a_Mr_tick_0 rfl
theorem a_Mr_tick_4 : dk_at b_Mr_tick 4 t_Mr_tick_4 := dk_go 3 a_Mr_tick_1 rfl
theorem a_Mr_tick_5 : dk_at b_Mr_tick 5 t_Mr_tick_5 := dk_go 1 a_Mr_tick_4 rfl
theorem a_Mr_tick_7 : dk_at b_Mr_tick 7 t_Mr_tick_7 := dk_go 2 a_Mr_tick_5 rfl
theorem a_Mr_tick_10 : dk_at b_Mr_tick 10 t_Mr_tick_10 := dk_go 3 a_Mr_tick_7 rfl
theorem a_Mr_tick_11 : dk_at b_Mr_tick 11 t_Mr_tick_11 := dk_go 1 a_Mr_tick_10 rfl
theorem a_Mr_tick_12 : dk_at b_Mr_tick 12 t_Mr_tick_12 := dk_go 1 a_Mr_tick_11 rfl
theorem a_Mr_tick_13 : dk_at b_Mr_tick 13 t_Mr_tick_13 := dk_go 1 a_Mr_tick_12 rfl
theorem a_Mr_tick_14 : dk_at b_Mr_tick 14 t_Mr_tick_14 := dk_go 1 a_Mr_tick_13 rfl
theorem a_Mr_tick_15 : dk_at b_Mr_tick 15 t_Mr_tick_15 := dk_go 1 a_Mr_tick_14 rfl
theorem a_Mr_tick_16 : dk_at b_Mr_tick 16 t_Mr_tick_16 := dk_go 1 a_Mr_tick_15 rfl
theorem a_Mr_tick_19 : dk_at b_Mr_tick 19 t_Mr_tick_19 := dk_go 3 a_Mr_tick_16 rfl
theorem a_Mr_tick_22 : dk_at b_Mr_tick 22 t_Mr_tick_22 := dk_go 3 a_Mr_tick_19 rfl
theorem a_Mr_tick_23 : dk_at b_Mr_tick 23 t_Mr_tick_23 := dk_go 1 a_Mr_tick_22 rfl
theorem a_Mr_tick_26 : dk_at b_Mr_tick 26 t_Mr_tick_26 := dk_go 3 a_Mr_tick_23 rfl
theorem a_Mr_tick_27 : dk_at b_Mr_tick 27 t_Mr_tick_27 := dk_go 1 a_Mr_tick_26 rfl
theorem a_Mr_tick_28 : dk_at b_Mr_tick 28 t_Mr_tick_28 := dk_go 1 a_Mr_tick_27 rfl
theorem a_Mr_tick_31 : dk_at b_Mr_tick 31 t_Mr_tick_31 := dk_go 3 a_Mr_tick_28 rfl
theorem a_Mr_tick_32 : dk_at b_Mr_tick 32 t_Mr_tick_32 := dk_go 1 a_Mr_tick_31 rfl
theorem a_Mr_tick_33 : dk_at b_Mr_tick 33 t_Mr_tick_33 := dk_go 1 a_Mr_tick_32 rfl
theorem a_Mr_tick_36 : dk_at b_Mr_tick 36 t_Mr_tick_36 := dk_go 3 a_Mr_tick_33 rfl
theorem a_Mr_tick_37 : dk_at b_Mr_tick 37 t_Mr_tick_37 := dk_go 1 a_Mr_tick_36 rfl
theorem a_Mr_tick_38 : dk_at b_Mr_tick 38 t_Mr_tick_38 := dk_go 1 a_Mr_tick_37 rfl
theorem a_Mr_tick_41 : dk_at b_Mr_tick 41 t_Mr_tick_41 := dk_go 3 a_Mr_tick_38 rfl
theorem a_Mr_tick_42 : dk_at b_Mr_tick 42 t_Mr_tick_42 := dk_go 1 a_Mr_tick_41 rfl
theorem a_Mr_tick_45 : dk_at b_Mr_tick 45 t_Mr_tick_45 := dk_go 3 a_Mr_tick_42 rfl
theorem a_Mr_tick_46 : dk_at b_Mr_tick 46 t_Mr_tick_46 := dk_go 1 a_Mr_tick_45 rfl
theorem a_Mr_tick_49 : dk_at b_Mr_tick 49 t_Mr_tick_49 := dk_go 3 a_Mr_tick_46 rfl
theorem a_Mr_tick_50 : dk_at b_Mr_tick 50 t_Mr_tick_50 := dk_go 1 a_Mr_tick_49 rfl
theorem a_Mr_tick_51 : dk_at b_Mr_tick 51 t_Mr_tick_51 := dk_go 1 a_Mr_tick_50 rfl
theorem a_Mr_tick_52 : dk_at b_Mr_tick 52 t_Mr_tick_52 := dk_go 1 a_Mr_tick_51 rfl
theorem a_Mr_tick_53 : dk_at b_Mr_tick 53 t_Mr_tick_53 := dk_go 1 a_Mr_tick_52 rfl
theorem a_Mr_tick_55 : dk_at b_Mr_tick 55 t_Mr_tick_55 := dk_go 2 a_Mr_tick_53 rfl
theorem a_Mr_tick_58 : dk_at b_Mr_tick 58 t_Mr_tick_58 := dk_go 3 a_Mr_tick_55 rfl
theorem a_Mr_tick_60 : dk_at b_Mr_tick 60 t_Mr_tick_60 := dk_go 2 a_Mr_tick_58 rfl
theorem a_Mr_tick_63 : dk_at b_Mr_tick 63 t_Mr_tick_63 := dk_go 3 a_Mr_tick_60 rfl
theorem a_Mr_tick_64 : dk_at b_Mr_tick 64 t_Mr_tick_64 := dk_go 1 a_Mr_tick_63 rfl
theorem a_Mr_tick_67 : dk_at b_Mr_tick 67 t_Mr_tick_67 := dk_go 3 a_Mr_tick_64 rfl
theorem a_Mr_tick_68 : dk_at b_Mr_tick 68 t_Mr_tick_68 := dk_go 1 a_Mr_tick_67 rfl
theorem a_Mr_tick_69 : dk_at b_Mr_tick 69 t_Mr_tick_69 := dk_go 1 a_Mr_tick_68 rfl
theorem a_Mr_tick_70 : dk_at b_Mr_tick 70 t_Mr_tick_70 := dk_go 1 a_Mr_tick_69 rfl
theorem a_Mr_tick_71 : dk_at b_Mr_tick 71 t_Mr_tick_71 := dk_go 1 a_Mr_tick_70 rfl
theorem a_Mr_tick_72 : dk_at b_Mr_tick 72 t_Mr_tick_72 := dk_go 1 a_Mr_tick_71 rfl
theorem a_Mr_tick_73 : dk_at b_Mr_tick 73 t_Mr_tick_73 := dk_go 1 a_Mr_tick_72 rfl
theorem a_Mr_tick_76 : dk_at b_Mr_tick 76 t_Mr_tick_76 := dk_go 3 a_Mr_tick_73 rfl
theorem a_Mr_tick_77 : dk_at b_Mr_tick 77 t_Mr_tick_77 := dk_go 1 a_Mr_tick_76 rfl
theorem a_Mr_tick_78 : dk_at b_Mr_tick 78 t_Mr_tick_78 := dk_go 1 a_Mr_tick_77 rfl
theorem a_Mr_tick_79 : dk_at b_Mr_tick 79 t_Mr_tick_79 := dk_go 1 a_Mr_tick_78 rfl
theorem a_Mr_tick_80 : dk_at b_Mr_tick 80 t_Mr_tick_80 := dk_go 1 a_Mr_tick_79 rfl
theorem a_Mr_tick_83 : dk_at b_Mr_tick 83 t_Mr_tick_83 := dk_go 3 a_Mr_tick_80 rfl
theorem a_Mr_tick_84 : dk_at b_Mr_tick 84 t_Mr_tick_84 := dk_go 1 a_Mr_tick_83 rfl
theorem a_Mr_tick_87 : dk_at b_Mr_tick 87 t_Mr_tick_87 := dk_go 3 a_Mr_tick_84 rfl
theorem a_Mr_tick_89 : dk_at b_Mr_tick 89 t_Mr_tick_89 := dk_go 2 a_Mr_tick_87 rfl
theorem a_Mr_tick_90 : dk_at b_Mr_tick 90 t_Mr_tick_90 := dk_go 1 a_Mr_tick_89 rfl
theorem a_Mr_tick_93 : dk_at b_Mr_tick 93 t_Mr_tick_93 := dk_go 3 a_Mr_tick_90 rfl
theorem a_Mr_tick_94 : dk_at b_Mr_tick 94 t_Mr_tick_94 := dk_go 1 a_Mr_tick_93 rfl
theorem a_Mr_tick_95 : dk_at b_Mr_tick 95 t_Mr_tick_95 := dk_go 1 a_Mr_tick_94 rfl
theorem a_Mr_tick_96 : dk_at b_Mr_tick 96 t_Mr_tick_96 := dk_go 1 a_Mr_tick_95 rfl
theorem a_Mr_tick_97 : dk_at b_Mr_tick 97 t_Mr_tick_97 := dk_go 1 a_Mr_tick_96 rfl
theorem a_Mr_tick_100 : dk_at b_Mr_tick 100 t_Mr_tick_100 := dk_go 3 a_Mr_tick_97 rfl
theorem a_Mr_tick_101 : dk_at b_Mr_tick 101 t_Mr_tick_101 := dk_go 1 a_Mr_tick_100 rfl
theorem a_Mr_tick_104 : dk_at b_Mr_tick 104 t_Mr_tick_104 := dk_go 3 a_Mr_tick_101 rfl
theorem a_Mr_tick_105 : dk_at b_Mr_tick 105 t_Mr_tick_105 := dk_go 1 a_Mr_tick_104 rfl
theorem a_Mr_tick_106 : dk_at b_Mr_tick 106 t_Mr_tick_106 := dk_go 1 a_Mr_tick_105 rfl
theorem a_Mr_tick_107 : dk_at b_Mr_tick 107 t_Mr_tick_107 := dk_go 1 a_Mr_tick_106 rfl
theorem a_Mr_tick_110 : dk_at b_Mr_tick 110 t_Mr_tick_110 := dk_go 3 a_Mr_tick_107 rfl
theorem a_Mr_tick_112 : dk_at b_Mr_tick 112 t_Mr_tick_112 := dk_go 2 a_Mr_tick_110 rfl
theorem a_Mr_tick_113 : dk_at b_Mr_tick 113 t_Mr_tick_113 := dk_go 1 a_Mr_tick_112 rfl
theorem a_Mr_tick_116 : dk_at b_Mr_tick 116 t_Mr_tick_116 := dk_go 3 a_Mr_tick_113 rfl
theorem a_Mr_tick_117 : dk_at b_Mr_tick 117 t_Mr_tick_117 := dk_go 1 a_Mr_tick_116 rfl
theorem a_Mr_tick_118 : dk_at b_Mr_tick 118 t_Mr_tick_118 := dk_go 1 a_Mr_tick_117 rfl
theorem a_Mr_tick_119 : dk_at b_Mr_tick 119 t_Mr_tick_119 := dk_go 1 a_Mr_tick_118 rfl
theorem a_Mr_tick_120 : dk_at b_Mr_tick 120 t_Mr_tick_120 := dk_go 1 a_Mr_tick_119 rfl
theorem a_Mr_tick_123 : dk_at b_Mr_tick 123 t_Mr_tick_123 := dk_go 3 a_Mr_tick_120 rfl
theorem a_Mr_tick_124 : dk_at b_Mr_tick 124 t_Mr_tick_124 := dk_go 1 a_Mr_tick_123 rfl
theorem a_Mr_tick_127 : dk_at b_Mr_tick 127 t_Mr_tick_127 := dk_go 3 a_Mr_tick_124 rfl
theorem a_Mr_tick_128 : dk_at b_Mr_tick 128 t_Mr_tick_128 := dk_go 1 a_Mr_tick_127 rfl
theorem a_Mr_tick_129 : dk_at b_Mr_tick 129 t_Mr_tick_129 := dk_go 1 a_Mr_tick_128 rfl
theorem a_Mr_tick_130 : dk_at b_Mr_tick 130 t_Mr_tick_130 := dk_go 1 a_Mr_tick_129 rfl
theorem a_Mr_tick_131 : dk_at b_Mr_tick 131 t_Mr_tick_131 := dk_go 1 a_Mr_tick_130 rfl
theorem a_Mr_tick_134 : dk_at b_Mr_tick 134 t_Mr_tick_134 := dk_go 3 a_Mr_tick_131 rfl
theorem a_Mr_tick_135 : dk_at b_Mr_tick 135 t_Mr_tick_135 := dk_go 1 a_Mr_tick_134 rfl
theorem a_Mr_tick_136 : dk_at b_Mr_tick 136 t_Mr_tick_136 := dk_go 1 a_Mr_tick_135 rfl
theorem a_Mr_tick_139 : dk_at b_Mr_tick 139 t_Mr_tick_139 := dk_go 3 a_Mr_tick_136 rfl
theorem a_Mr_tick_140 : dk_at b_Mr_tick 140 t_Mr_tick_140 := dk_go 1 a_Mr_tick_139 rfl
theorem a_Mr_tick_141 : dk_at b_Mr_tick 141 t_Mr_tick_141 := dk_go 1 a_Mr_tick_140 rfl
theorem a_Mr_tick_142 : dk_at b_Mr_tick 142 t_Mr_tick_142 := dk_go 1 a_Mr_tick_141 rfl
theorem a_Mr_tick_145 : dk_at b_Mr_tick 145 t_Mr_tick_145 := dk_go 3 a_Mr_tick_142 rfl
theorem a_Mr_tick_146 : dk_at b_Mr_tick 146 t_Mr_tick_146 := dk_go 1 a_Mr_tick_145 rfl
theorem a_Mr_tick_149 : dk_at b_Mr_tick 149 t_Mr_tick_149 := dk_go 3 a_Mr_tick_146 rfl
theorem a_Mr_tick_150 : dk_at b_Mr_tick 150 t_Mr_tick_150 := dk_go 1 a_Mr_tick_149 rfl
theorem a_Mr_tick_151 : dk_at b_Mr_tick 151 t_Mr_tick_151 := dk_go 1 a_Mr_tick_150 rfl
theorem a_Mr_tick_152 : dk_at b_Mr_tick 152 t_Mr_tick_152 := dk_go 1 a_Mr_tick_151 rfl
theorem a_Mr_tick_153 : dk_at b_Mr_tick 153 t_Mr_tick_153 := dk_go 1 a_Mr_tick_152 rfl
theorem a_Mr_tick_156 : dk_at b_Mr_tick 156 t_Mr_tick_156 := dk_go 3 a_Mr_tick_153 rfl
theorem a_Mr_tick_157 : dk_at b_Mr_tick 157 t_Mr_tick_157 := dk_go 1 a_Mr_tick_156 rfl
theorem a_Mr_tick_158 : dk_at b_Mr_tick 158 t_Mr_tick_158 := dk_go 1 a_Mr_tick_157 rfl
theorem a_Mr_tick_161 : dk_at b_Mr_tick 161 t_Mr_tick_161 := dk_go 3 a_Mr_tick_158 rfl
theorem a_Mr_tick_164 : dk_at b_Mr_tick 164 t_Mr_tick_164 := dk_go 3 a_Mr_tick_161 rfl
theorem a_Mr_tick_165 : dk_at b_Mr_tick 165 t_Mr_tick_165 := dk_go 1 a_Mr_tick_164 rfl
theorem d_Mr_tick_0 : decode b_Mr_tick 0 = .ok (.iload_n 1, 1) := dk_0 a_Mr_tick_0 (dko_27 _)
theorem d_Mr_tick_1 : decode b_Mr_tick 1 = .ok (.ifCond .lt 9, 3) := dk_S2 a_Mr_tick_1 (dko_155 _) (by decide +kernel)
theorem d_Mr_tick_4 : decode b_Mr_tick 4 = .ok (.iload_n 1, 1) := dk_0 a_Mr_tick_4 (dko_27 _)
theorem d_Mr_tick_5 : decode b_Mr_tick 5 = .ok (.ldc 142, 2) := dk_U1 a_Mr_tick_5 (dko_18 _) rfl
theorem d_Mr_tick_7 : decode b_Mr_tick 7 = .ok (.if_icmp .le 5, 3) := dk_S2 a_Mr_tick_7 (dko_164 _) (by decide +kernel)
theorem d_Mr_tick_10 : decode b_Mr_tick 10 = .ok (.iconst 0, 1) := dk_0 a_Mr_tick_10 (dko_3 _)
theorem d_Mr_tick_11 : decode b_Mr_tick 11 = .ok (.ireturn, 1) := dk_0 a_Mr_tick_11 (dko_172 _)
theorem d_Mr_tick_12 : decode b_Mr_tick 12 = .ok (.iconst 0, 1) := dk_0 a_Mr_tick_12 (dko_3 _)
theorem d_Mr_tick_13 : decode b_Mr_tick 13 = .ok (.istore_n 2, 1) := dk_0 a_Mr_tick_13 (dko_61 _)
theorem d_Mr_tick_14 : decode b_Mr_tick 14 = .ok (.iload_n 2, 1) := dk_0 a_Mr_tick_14 (dko_28 _)
theorem d_Mr_tick_15 : decode b_Mr_tick 15 = .ok (.aload_n 0, 1) := dk_0 a_Mr_tick_15 (dko_42 _)
theorem d_Mr_tick_16 : decode b_Mr_tick 16 = .ok (.getfield 133, 3) := dk_U2 a_Mr_tick_16 (dko_180 _) rfl
theorem d_Mr_tick_19 : decode b_Mr_tick 19 = .ok (.if_icmp .ge 145, 3) := dk_S2 a_Mr_tick_19 (dko_162 _) (by decide +kernel)
theorem d_Mr_tick_22 : decode b_Mr_tick 22 = .ok (.iload_n 1, 1) := dk_0 a_Mr_tick_22 (dko_27 _)
theorem d_Mr_tick_23 : decode b_Mr_tick 23 = .ok (.ifCond .le 141, 3) := dk_S2 a_Mr_tick_23 (dko_158 _) (by decide +kernel)
theorem d_Mr_tick_26 : decode b_Mr_tick 26 = .ok (.aload_n 0, 1) := dk_0 a_Mr_tick_26 (dko_42 _)
theorem d_Mr_tick_27 : decode b_Mr_tick 27 = .ok (.iload_n 2, 1) := dk_0 a_Mr_tick_27 (dko_28 _)
theorem d_Mr_tick_28 : decode b_Mr_tick 28 = .ok (.invokevirtual 143, 3) := dk_U2 a_Mr_tick_28 (dko_182 _) rfl
theorem d_Mr_tick_31 : decode b_Mr_tick 31 = .ok (.istore_n 3, 1) := dk_0 a_Mr_tick_31 (dko_62 _)
theorem d_Mr_tick_32 : decode b_Mr_tick 32 = .ok (.aload_n 0, 1) := dk_0 a_Mr_tick_32 (dko_42 _)
theorem d_Mr_tick_33 : decode b_Mr_tick 33 = .ok (.getfield 50, 3) := dk_U2 a_Mr_tick_33 (dko_180 _) rfl
theorem d_Mr_tick_36 : decode b_Mr_tick 36 = .ok (.iload_n 2, 1) := dk_0 a_Mr_tick_36 (dko_28 _)
theorem d_Mr_tick_37 : decode b_Mr_tick 37 = .ok (.iload_n 3, 1) := dk_0 a_Mr_tick_37 (dko_29 _)
theorem d_Mr_tick_38 : decode b_Mr_tick 38 = .ok (.ifCond .ne 7, 3) := dk_S2 a_Mr_tick_38 (dko_154 _) (by decide +kernel)
theorem d_Mr_tick_41 : decode b_Mr_tick 41 = .ok (.iconst 0, 1) := dk_0 a_Mr_tick_41 (dko_3 _)
theorem d_Mr_tick_42 : decode b_Mr_tick 42 = .ok (.goto 29, 3) := dk_S2 a_Mr_tick_42 (dko_167 _) (by decide +kernel)
theorem d_Mr_tick_45 : decode b_Mr_tick 45 = .ok (.aload_n 0, 1) := dk_0 a_Mr_tick_45 (dko_42 _)
theorem d_Mr_tick_46 : decode b_Mr_tick 46 = .ok (.getfield 50, 3) := dk_U2 a_Mr_tick_46 (dko_180 _) rfl
theorem d_Mr_tick_49 : decode b_Mr_tick 49 = .ok (.iload_n 2, 1) := dk_0 a_Mr_tick_49 (dko_28 _)
theorem d_Mr_tick_50 : decode b_Mr_tick 50 = .ok (.iaload, 1) := dk_0 a_Mr_tick_50 (dko_46 _)
theorem d_Mr_tick_51 : decode b_Mr_tick 51 = .ok (.iload_n 1, 1) := dk_0 a_Mr_tick_51 (dko_27 _)
theorem d_Mr_tick_52 : decode b_Mr_tick 52 = .ok (.iadd, 1) := dk_0 a_Mr_tick_52 (dko_96 _)
theorem d_Mr_tick_53 : decode b_Mr_tick 53 = .ok (.ldc 146, 2) := dk_U1 a_Mr_tick_53 (dko_18 _) rfl
theorem d_Mr_tick_55 : decode b_Mr_tick 55 = .ok (.if_icmp .le 8, 3) := dk_S2 a_Mr_tick_55 (dko_164 _) (by decide +kernel)
theorem d_Mr_tick_58 : decode b_Mr_tick 58 = .ok (.ldc 146, 2) := dk_U1 a_Mr_tick_58 (dko_18 _) rfl
theorem d_Mr_tick_60 : decode b_Mr_tick 60 = .ok (.goto 11, 3) := dk_S2 a_Mr_tick_60 (dko_167 _) (by decide +kernel)
theorem d_Mr_tick_63 : decode b_Mr_tick 63 = .ok (.aload_n 0, 1) := dk_0 a_Mr_tick_63 (dko_42 _)
theorem d_Mr_tick_64 : decode b_Mr_tick 64 = .ok (.getfield 50, 3) := dk_U2 a_Mr_tick_64 (dko_180 _) rfl
theorem d_Mr_tick_67 : decode b_Mr_tick 67 = .ok (.iload_n 2, 1) := dk_0 a_Mr_tick_67 (dko_28 _)
theorem d_Mr_tick_68 : decode b_Mr_tick 68 = .ok (.iaload, 1) := dk_0 a_Mr_tick_68 (dko_46 _)
theorem d_Mr_tick_69 : decode b_Mr_tick 69 = .ok (.iload_n 1, 1) := dk_0 a_Mr_tick_69 (dko_27 _)
theorem d_Mr_tick_70 : decode b_Mr_tick 70 = .ok (.iadd, 1) := dk_0 a_Mr_tick_70 (dko_96 _)
theorem d_Mr_tick_71 : decode b_Mr_tick 71 = .ok (.iastore, 1) := dk_0 a_Mr_tick_71 (dko_79 _)
theorem d_Mr_tick_72 : decode b_Mr_tick 72 = .ok (.aload_n 0, 1) := dk_0 a_Mr_tick_72 (dko_42 _)
theorem d_Mr_tick_73 : decode b_Mr_tick 73 = .ok (.getfield 53, 3) := dk_U2 a_Mr_tick_73 (dko_180 _) rfl
theorem d_Mr_tick_76 : decode b_Mr_tick 76 = .ok (.iload_n 2, 1) := dk_0 a_Mr_tick_76 (dko_28 _)
theorem d_Mr_tick_77 : decode b_Mr_tick 77 = .ok (.dup2, 1) := dk_0 a_Mr_tick_77 (dko_92 _)
theorem d_Mr_tick_78 : decode b_Mr_tick 78 = .ok (.baload, 1) := dk_0 a_Mr_tick_78 (dko_51 _)
theorem d_Mr_tick_79 : decode b_Mr_tick 79 = .ok (.iload_n 3, 1) := dk_0 a_Mr_tick_79 (dko_29 _)
theorem d_Mr_tick_80 : decode b_Mr_tick 80 = .ok (.ifCond .eq 47, 3) := dk_S2 a_Mr_tick_80 (dko_153 _) (by decide +kernel)
theorem d_Mr_tick_83 : decode b_Mr_tick 83 = .ok (.aload_n 0, 1) := dk_0 a_Mr_tick_83 (dko_42 _)
theorem d_Mr_tick_84 : decode b_Mr_tick 84 = .ok (.getfield 43, 3) := dk_U2 a_Mr_tick_84 (dko_180 _) rfl
theorem d_Mr_tick_87 : decode b_Mr_tick 87 = .ok (.bipush 40, 2) := dk_S1 a_Mr_tick_87 (dko_16 _) (by decide +kernel)
theorem d_Mr_tick_89 : decode b_Mr_tick 89 = .ok (.aload_n 0, 1) := dk_0 a_Mr_tick_89 (dko_42 _)
theorem d_Mr_tick_90 : decode b_Mr_tick 90 = .ok (.getfield 85, 3) := dk_U2 a_Mr_tick_90 (dko_180 _) rfl
theorem d_Mr_tick_93 : decode b_Mr_tick 93 = .ok (.imul, 1) := dk_0 a_Mr_tick_93 (dko_104 _)
theorem d_Mr_tick_94 : decode b_Mr_tick 94 = .ok (.iload_n 2, 1) := dk_0 a_Mr_tick_94 (dko_28 _)
theorem d_Mr_tick_95 : decode b_Mr_tick 95 = .ok (.iadd, 1) := dk_0 a_Mr_tick_95 (dko_96 _)
theorem d_Mr_tick_96 : decode b_Mr_tick 96 = .ok (.baload, 1) := dk_0 a_Mr_tick_96 (dko_51 _)
theorem d_Mr_tick_97 : decode b_Mr_tick 97 = .ok (.ifCond .eq 30, 3) := dk_S2 a_Mr_tick_97 (dko_153 _) (by decide +kernel)
theorem d_Mr_tick_100 : decode b_Mr_tick 100 = .ok (.aload_n 0, 1) := dk_0 a_Mr_tick_100 (dko_42 _)
theorem d_Mr_tick_101 : decode b_Mr_tick 101 = .ok (.getfield 50, 3) := dk_U2 a_Mr_tick_101 (dko_180 _) rfl
theorem d_Mr_tick_104 : decode b_Mr_tick 104 = .ok (.iload_n 2, 1) := dk_0 a_Mr_tick_104 (dko_28 _)
theorem d_Mr_tick_105 : decode b_Mr_tick 105 = .ok (.iaload, 1) := dk_0 a_Mr_tick_105 (dko_46 _)
theorem d_Mr_tick_106 : decode b_Mr_tick 106 = .ok (.aload_n 0, 1) := dk_0 a_Mr_tick_106 (dko_42 _)
theorem d_Mr_tick_107 : decode b_Mr_tick 107 = .ok (.getfield 40, 3) := dk_U2 a_Mr_tick_107 (dko_180 _) rfl
theorem d_Mr_tick_110 : decode b_Mr_tick 110 = .ok (.bipush 40, 2) := dk_S1 a_Mr_tick_110 (dko_16 _) (by decide +kernel)
theorem d_Mr_tick_112 : decode b_Mr_tick 112 = .ok (.aload_n 0, 1) := dk_0 a_Mr_tick_112 (dko_42 _)
theorem d_Mr_tick_113 : decode b_Mr_tick 113 = .ok (.getfield 85, 3) := dk_U2 a_Mr_tick_113 (dko_180 _) rfl
theorem d_Mr_tick_116 : decode b_Mr_tick 116 = .ok (.imul, 1) := dk_0 a_Mr_tick_116 (dko_104 _)
theorem d_Mr_tick_117 : decode b_Mr_tick 117 = .ok (.iload_n 2, 1) := dk_0 a_Mr_tick_117 (dko_28 _)
theorem d_Mr_tick_118 : decode b_Mr_tick 118 = .ok (.iadd, 1) := dk_0 a_Mr_tick_118 (dko_96 _)
theorem d_Mr_tick_119 : decode b_Mr_tick 119 = .ok (.iaload, 1) := dk_0 a_Mr_tick_119 (dko_46 _)
theorem d_Mr_tick_120 : decode b_Mr_tick 120 = .ok (.if_icmp .lt 7, 3) := dk_S2 a_Mr_tick_120 (dko_161 _) (by decide +kernel)
theorem d_Mr_tick_123 : decode b_Mr_tick 123 = .ok (.iconst 1, 1) := dk_0 a_Mr_tick_123 (dko_4 _)
theorem d_Mr_tick_124 : decode b_Mr_tick 124 = .ok (.goto 4, 3) := dk_S2 a_Mr_tick_124 (dko_167 _) (by decide +kernel)
theorem d_Mr_tick_127 : decode b_Mr_tick 127 = .ok (.iconst 0, 1) := dk_0 a_Mr_tick_127 (dko_3 _)
theorem d_Mr_tick_128 : decode b_Mr_tick 128 = .ok (.ior, 1) := dk_0 a_Mr_tick_128 (dko_128 _)
theorem d_Mr_tick_129 : decode b_Mr_tick 129 = .ok (.bastore, 1) := dk_0 a_Mr_tick_129 (dko_84 _)
theorem d_Mr_tick_130 : decode b_Mr_tick 130 = .ok (.aload_n 0, 1) := dk_0 a_Mr_tick_130 (dko_42 _)
theorem d_Mr_tick_131 : decode b_Mr_tick 131 = .ok (.getfield 56, 3) := dk_U2 a_Mr_tick_131 (dko_180 _) rfl
theorem d_Mr_tick_134 : decode b_Mr_tick 134 = .ok (.iload_n 2, 1) := dk_0 a_Mr_tick_134 (dko_28 _)
theorem d_Mr_tick_135 : decode b_Mr_tick 135 = .ok (.aload_n 0, 1) := dk_0 a_Mr_tick_135 (dko_42 _)
theorem d_Mr_tick_136 : decode b_Mr_tick 136 = .ok (.getfield 56, 3) := dk_U2 a_Mr_tick_136 (dko_180 _) rfl
theorem d_Mr_tick_139 : decode b_Mr_tick 139 = .ok (.iload_n 2, 1) := dk_0 a_Mr_tick_139 (dko_28 _)
theorem d_Mr_tick_140 : decode b_Mr_tick 140 = .ok (.iaload, 1) := dk_0 a_Mr_tick_140 (dko_46 _)
theorem d_Mr_tick_141 : decode b_Mr_tick 141 = .ok (.iload_n 1, 1) := dk_0 a_Mr_tick_141 (dko_27 _)
theorem d_Mr_tick_142 : decode b_Mr_tick 142 = .ok (.if_icmp .le 14, 3) := dk_S2 a_Mr_tick_142 (dko_164 _) (by decide +kernel)
theorem d_Mr_tick_145 : decode b_Mr_tick 145 = .ok (.aload_n 0, 1) := dk_0 a_Mr_tick_145 (dko_42 _)
theorem d_Mr_tick_146 : decode b_Mr_tick 146 = .ok (.getfield 56, 3) := dk_U2 a_Mr_tick_146 (dko_180 _) rfl
theorem d_Mr_tick_149 : decode b_Mr_tick 149 = .ok (.iload_n 2, 1) := dk_0 a_Mr_tick_149 (dko_28 _)
theorem d_Mr_tick_150 : decode b_Mr_tick 150 = .ok (.iaload, 1) := dk_0 a_Mr_tick_150 (dko_46 _)
theorem d_Mr_tick_151 : decode b_Mr_tick 151 = .ok (.iload_n 1, 1) := dk_0 a_Mr_tick_151 (dko_27 _)
theorem d_Mr_tick_152 : decode b_Mr_tick 152 = .ok (.isub, 1) := dk_0 a_Mr_tick_152 (dko_100 _)
theorem d_Mr_tick_153 : decode b_Mr_tick 153 = .ok (.goto 4, 3) := dk_S2 a_Mr_tick_153 (dko_167 _) (by decide +kernel)
theorem d_Mr_tick_156 : decode b_Mr_tick 156 = .ok (.iconst 0, 1) := dk_0 a_Mr_tick_156 (dko_3 _)
theorem d_Mr_tick_157 : decode b_Mr_tick 157 = .ok (.iastore, 1) := dk_0 a_Mr_tick_157 (dko_79 _)
theorem d_Mr_tick_158 : decode b_Mr_tick 158 = .ok (.iinc 2 1, 3) := dk_US a_Mr_tick_158 (dko_132 _) (by decide +kernel)
theorem d_Mr_tick_161 : decode b_Mr_tick 161 = .ok (.goto (-147), 3) := dk_S2 a_Mr_tick_161 (dko_167 _) (by decide +kernel)
theorem d_Mr_tick_164 : decode b_Mr_tick 164 = .ok (.iconst 1, 1) := dk_0 a_Mr_tick_164 (dko_4 _)
theorem d_Mr_tick_165 : decode b_Mr_tick 165 = .ok (.ireturn, 1) := dk_0 a_Mr_tick_165 (dko_172 _)
set_option maxHeartbeats 4000000 in
set_option maxRecDepth 100000 in
theorem ok_Mr_tick (pc : Nat) : OpS mt mi_Mr_tick pc (cs_Mr_tick pc) := (os_n (os_n (os_n (os_n (os_n (os_n (os_l (so_iload_n d_Mr_tick_0 rfl)) (os_n (os_l (so_iflt d_Mr_tick_1 (by decide))) (os_l (so_iload_n d_Mr_tick_4 rfl)))) (os_n (os_l (so_ldc mw_2617 d_Mr_tick_5)) (os_n (os_l (so_icle d_Mr_tick_7 (by decide))) (os_l (so_iconst d_Mr_tick_10 (by decide)))))) (os_n (os_n (os_l (so_zreturn rfl d_Mr_tick_11)) (os_n (os_l (so_iconst d_Mr_tick_12 (by decide))) (os_l (so_istore_n d_Mr_tick_13 rfl (by decide))))) (os_n (os_l (so_iload_n d_Mr_tick_14 rfl)) (os_n (os_l (so_aload_n d_Mr_tick_15 rfl)) (os_l (so_get (C := R_Mr) (T := F_Mr) (N := 25) (j := 20) in_Mr rfl (by decide) mw_1732 d_Mr_tick_16)))))) (os_n (os_n (os_n (os_l (so_icge d_Mr_tick_19 (by decide))) (os_n (os_l (so_iload_n d_Mr_tick_22 rfl)) (os_l (so_ifle d_Mr_tick_23 (by decide))))) (os_n (os_l (so_aload_n d_Mr_tick_26 rfl)) (os_n (os_l (so_iload_n d_Mr_tick_27 rfl)) (os_l (so_callV (iv := mi_Mr_isOn) rfl rfl rfl mw_2482 mw_2484 sl_163 mw_20 mw_2485 ⟨by decide +kernel, by decide +kernel, by decide +kernel⟩ (by decide) d_Mr_tick_28))))) (os_n (os_n (os_l (so_istore_n d_Mr_tick_31 rfl (by decide))) (os_n (os_l (so_aload_n d_Mr_tick_32 rfl)) (os_l (so_get (C := R_Mr) (T := F_Mr) (N := 25) (j := 21) in_Mr rfl (by decide) mw_1734 d_Mr_tick_33)))) (os_n (os_n (os_l (so_iload_n d_Mr_tick_36 rfl)) (os_l (so_iload_n d_Mr_tick_37 rfl))) (os_n (os_l (so_ifne d_Mr_tick_38 (by decide))) (os_l (so_iconst d_Mr_tick_41 (by decide)))))))) (os_n (os_n (os_n (os_n (os_l (so_goto d_Mr_tick_42 (by decide))) (os_n (os_l (so_aload_n d_Mr_tick_45 rfl)) (os_l (so_get (C := R_Mr) (T := F_Mr) (N := 25) (j := 21) in_Mr rfl (by decide) mw_1734 d_Mr_tick_46)))) (os_n (os_l (so_iload_n d_Mr_tick_49 rfl)) (os_n (os_l (so_iaload d_Mr_tick_50)) (os_l (so_iload_n d_Mr_tick_51 rfl))))) (os_n (os_n (os_l (so_iadd d_Mr_tick_52)) (os_n (os_l (so_ldc mw_2618 d_Mr_tick_53)) (os_l (so_icle d_Mr_tick_55 (by decide))))) (os_n (os_l (so_ldc mw_2618 d_Mr_tick_58)) (os_n (os_l (so_goto d_Mr_tick_60 (by decide))) (os_l (so_aload_n d_Mr_tick_63 rfl)))))) (os_n (os_n (os_n (os_l (so_get (C := R_Mr) (T := F_Mr) (N := 25) (j := 21) in_Mr rfl (by decide) mw_1734 d_Mr_tick_64)) (os_n (os_l (so_iload_n d_Mr_tick_67 rfl)) (os_l (so_iaload d_Mr_tick_68)))) (os_n (os_l (so_iload_n d_Mr_tick_69 rfl)) (os_n (os_l (so_iadd d_Mr_tick_70)) (os_l (so_iastore d_Mr_tick_71))))) (os_n (os_n (os_l (so_aload_n d_Mr_tick_72 rfl)) (os_n (os_l (so_get (C := R_Mr) (T := F_Mr) (N := 25) (j := 22) in_Mr rfl (by decide) mw_1736 d_Mr_tick_73)) (os_l (so_iload_n d_Mr_tick_76 rfl)))) (os_n (os_n (os_l (so_dup2 d_Mr_tick_77)) (os_l (so_baload d_Mr_tick_78))) (os_n (os_l (so_iload_n d_Mr_tick_79 rfl)) (os_l (so_ifeq d_Mr_tick_80 (by decide))))))))) (os_n (os_n (os_n (os_n (os_n (os_l (so_aload_n d_Mr_tick_83 rfl)) (os_n (os_l (so_get (C := R_Mr) (T := F_Mr) (N := 25) (j := 18) in_Mr rfl (by decide) mw_1730 d_Mr_tick_84)) (os_l (so_bipush d_Mr_tick_87 (by decide))))) (os_n (os_l (so_aload_n d_Mr_tick_89 rfl)) (os_n (os_l (so_get (C := R_Mr) (T := F_Mr) (N := 25) (j := 12) in_Mr rfl (by decide) mw_1724 d_Mr_tick_90)) (os_l (so_imul d_Mr_tick_93))))) (os_n (os_n (os_l (so_iload_n d_Mr_tick_94 rfl)) (os_n (os_l (so_iadd d_Mr_tick_95)) (os_l (so_baload d_Mr_tick_96)))) (os_n (os_l (so_ifeq d_Mr_tick_97 (by decide))) (os_n (os_l (so_aload_n d_Mr_tick_100 rfl)) (os_l (so_get (C := R_Mr) (T := F_Mr) (N := 25) (j := 21) in_Mr rfl (by decide) mw_1734 d_Mr_tick_101)))))) (os_n (os_n (os_n (os_l (so_iload_n d_Mr_tick_104 rfl)) (os_n (os_l (so_iaload d_Mr_tick_105)) (os_l (so_aload_n d_Mr_tick_106 rfl)))) (os_n (os_l (so_get (C := R_Mr) (T := F_Mr) (N := 25) (j := 17) in_Mr rfl (by decide) mw_1729 d_Mr_tick_107)) (os_n (os_l (so_bipush d_Mr_tick_110 (by decide))) (os_l (so_aload_n d_Mr_tick_112 rfl))))) (os_n (os_n (os_l (so_get (C := R_Mr) (T := F_Mr) (N := 25) (j := 12) in_Mr rfl (by decide) mw_1724 d_Mr_tick_113)) (os_n (os_l (so_imul d_Mr_tick_116)) (os_l (so_iload_n d_Mr_tick_117 rfl)))) (os_n (os_n (os_l (so_iadd d_Mr_tick_118)) (os_l (so_iaload d_Mr_tick_119))) (os_n (os_l (so_iclt d_Mr_tick_120 (by decide))) (os_l (so_iconst d_Mr_tick_123 (by decide)))))))) (os_n (os_n (os_n (os_n (os_l (so_goto d_Mr_tick_124 (by decide))) (os_n (os_l (so_iconst d_Mr_tick_127 (by decide))) (os_l (so_ior d_Mr_tick_128)))) (os_n (os_l (so_bastore d_Mr_tick_129)) (os_n (os_l (so_aload_n d_Mr_tick_130 rfl)) (os_l (so_get (C := R_Mr) (T := F_Mr) (N := 25) (j := 23) in_Mr rfl (by decide) mw_1738 d_Mr_tick_131))))) (os_n (os_n (os_l (so_iload_n d_Mr_tick_134 rfl)) (os_n (os_l (so_aload_n d_Mr_tick_135 rfl)) (os_l (so_get (C := R_Mr) (T := F_Mr) (N := 25) (j := 23) in_Mr rfl (by decide) mw_1738 d_Mr_tick_136)))) (os_n (os_n (os_l (so_iload_n d_Mr_tick_139 rfl)) (os_l (so_iaload d_Mr_tick_140))) (os_n (os_l (so_iload_n d_Mr_tick_141 rfl)) (os_l (so_icle d_Mr_tick_142 (by decide))))))) (os_n (os_n (os_n (os_l (so_aload_n d_Mr_tick_145 rfl)) (os_n (os_l (so_get (C := R_Mr) (T := F_Mr) (N := 25) (j := 23) in_Mr rfl (by decide) mw_1738 d_Mr_tick_146)) (os_l (so_iload_n d_Mr_tick_149 rfl)))) (os_n (os_l (so_iaload d_Mr_tick_150)) (os_n (os_l (so_iload_n d_Mr_tick_151 rfl)) (os_l (so_isub d_Mr_tick_152))))) (os_n (os_n (os_l (so_goto d_Mr_tick_153 (by decide))) (os_n (os_l (so_iconst d_Mr_tick_156 (by decide))) (os_l (so_iastore d_Mr_tick_157)))) (os_n (os_n (os_l (so_iinc d_Mr_tick_158 (by decide) (by decide))) (os_l (so_goto d_Mr_tick_161 (by decide)))) (os_n (os_l (so_iconst d_Mr_tick_164 (by decide))) (os_l (so_zreturn rfl d_Mr_tick_165)))))))))
abbrev t_Mr_act1_101 : List UInt8 := 172 :: []
abbrev t_Mr_act1_100 : List UInt8 := 3 :: t_Mr_act1_101
abbrev t_Mr_act1_97 : List UInt8 := 167 :: 255 :: 173 :: t_Mr_act1_100
abbrev t_Mr_act1_94 : List UInt8 := 132 :: 2 :: 1 :: t_Mr_act1_97
abbrev t_Mr_act1_93 : List UInt8 := 172 :: t_Mr_act1_94
abbrev t_Mr_act1_92 : List UInt8 := 96 :: t_Mr_act1_93
abbrev t_Mr_act1_91 : List UInt8 := 4 :: t_Mr_act1_92
abbrev t_Mr_act1_90 : List UInt8 := 28 :: t_Mr_act1_91
abbrev t_Mr_act1_87 : List UInt8 := 153 :: 0 :: 7 :: t_Mr_act1_90
abbrev t_Mr_act1_84 : List UInt8 := 182 :: 0 :: 147 :: t_Mr_act1_87
abbrev t_Mr_act1_83 : List UInt8 := 27 :: t_Mr_act1_84
abbrev t_Mr_act1_82 : List UInt8 := 28 :: t_Mr_act1_83
abbrev t_Mr_act1_81 : List UInt8 := 42 :: t_Mr_act1_82
abbrev t_Mr_act1_78 : List UInt8 := 153 :: 0 :: 16 :: t_Mr_act1_81
abbrev t_Mr_act1_77 : List UInt8 := 29 :: t_Mr_act1_78
abbrev t_Mr_act1_76 : List UInt8 := 62 :: t_Mr_act1_77
abbrev t_Mr_act1_75 : List UInt8 := 3 :: t_Mr_act1_76
abbrev t_Mr_act1_72 : List UInt8 := 167 :: 0 :: 4 :: t_Mr_act1_75
abbrev t_Mr_act1_71 : List UInt8 := 4 :: t_Mr_act1_72
abbrev t_Mr_act1_68 : List UInt8 := 161 :: 0 :: 7 :: t_Mr_act1_71
abbrev t_Mr_act1_67 : List UInt8 := 46 :: t_Mr_act1_68
abbrev t_Mr_act1_66 : List UInt8 := 96 :: t_Mr_act1_67
abbrev t_Mr_act1_65 : List UInt8 := 28 :: t_Mr_act1_66
abbrev t_Mr_act1_64 : List UInt8 := 104 :: t_Mr_act1_65
abbrev t_Mr_act1_61 : List UInt8 := 180 :: 0 :: 85 :: t_Mr_act1_64
abbrev t_Mr_act1_60 : List UInt8 := 42 :: t_Mr_act1_61
abbrev t_Mr_act1_58 : List UInt8 := 16 :: 40 :: t_Mr_act1_60
abbrev t_Mr_act1_55 : List UInt8 := 180 :: 0 :: 40 :: t_Mr_act1_58
abbrev t_Mr_act1_54 : List UInt8 := 42 :: t_Mr_act1_55
abbrev t_Mr_act1_53 : List UInt8 := 46 :: t_Mr_act1_54
abbrev t_Mr_act1_52 : List UInt8 := 28 :: t_Mr_act1_53
abbrev t_Mr_act1_49 : List UInt8 := 180 :: 0 :: 50 :: t_Mr_act1_52
abbrev t_Mr_act1_48 : List UInt8 := 42 :: t_Mr_act1_49
abbrev t_Mr_act1_45 : List UInt8 := 153 :: 0 :: 30 :: t_Mr_act1_48
abbrev t_Mr_act1_42 : List UInt8 := 182 :: 0 :: 143 :: t_Mr_act1_45
abbrev t_Mr_act1_41 : List UInt8 := 28 :: t_Mr_act1_42
abbrev t_Mr_act1_40 : List UInt8 := 42 :: t_Mr_act1_41
abbrev t_Mr_act1_37 : List UInt8 := 154 :: 0 :: 34 :: t_Mr_act1_40
abbrev t_Mr_act1_36 : List UInt8 := 51 :: t_Mr_act1_37
abbrev t_Mr_act1_35 : List UInt8 := 28 :: t_Mr_act1_36
abbrev t_Mr_act1_32 : List UInt8 := 180 :: 0 :: 53 :: t_Mr_act1_35
abbrev t_Mr_act1_31 : List UInt8 := 42 :: t_Mr_act1_32
abbrev t_Mr_act1_28 : List UInt8 := 154 :: 0 :: 47 :: t_Mr_act1_31
abbrev t_Mr_act1_27 : List UInt8 := 46 :: t_Mr_act1_28
abbrev t_Mr_act1_26 : List UInt8 := 28 :: t_Mr_act1_27
abbrev t_Mr_act1_23 : List UInt8 := 180 :: 0 :: 56 :: t_Mr_act1_26
abbrev t_Mr_act1_22 : List UInt8 := 42 :: t_Mr_act1_23
abbrev t_Mr_act1_19 : List UInt8 := 162 :: 0 :: 81 :: t_Mr_act1_22
abbrev t_Mr_act1_16 : List UInt8 := 180 :: 0 :: 133 :: t_Mr_act1_19
abbrev t_Mr_act1_15 : List UInt8 := 42 :: t_Mr_act1_16
abbrev t_Mr_act1_14 : List UInt8 := 28 :: t_Mr_act1_15
abbrev t_Mr_act1_13 : List UInt8 := 61 :: t_Mr_act1_14
abbrev t_Mr_act1_12 : List UInt8 := 3 :: t_Mr_act1_13
abbrev t_Mr_act1_11 : List UInt8 := 172 :: t_Mr_act1_12
abbrev t_Mr_act1_10 : List UInt8 := 2 :: t_Mr_act1_11
abbrev t_Mr_act1_7 : List UInt8 := 164 :: 0 :: 5 :: t_Mr_act1_10
abbrev t_Mr_act1_5 : List UInt8 := 16 :: 31 :: t_Mr_act1_7
abbrev t_Mr_act1_4 : List UInt8 := 27 :: t_Mr_act1_5
abbrev t_Mr_act1_1 : List UInt8 := 155 :: 0 :: 9 :: t_Mr_act1_4
abbrev t_Mr_act1_0 : List UInt8 := 27 :: t_Mr_act1_1
theorem a_Mr_act1_0 : dk_at b_Mr_act1 0 t_Mr_act1_0 := dk_start (by decide +kernel)
theorem a_Mr_act1_1 : dk_at b_Mr_act1 1 t_Mr_act1_1 := dk_go 1 a_Mr_act1_0 rfl
theorem a_Mr_act1_4 : dk_at b_Mr_act1 4 t_Mr_act1_4 := dk_go 3 a_Mr_act1_1 rfl
theorem a_Mr_act1_5 : dk_at b_Mr_act1 5 t_Mr_act1_5 := dk_go 1 a_Mr_act1_4 rfl
theorem a_Mr_act1_7 : dk_at b_Mr_act1 7 t_Mr_act1_7 := dk_go 2 a_Mr_act1_5 rfl
theorem a_Mr_act1_10 : dk_at b_Mr_act1 10 t_Mr_act1_10 := dk_go 3 a_Mr_act1_7 rfl
theorem a_Mr_act1_11 : dk_at b_Mr_act1 11 t_Mr_act1_11 := dk_go 1 a_Mr_act1_10 rfl
theorem a_Mr_act1_12 : dk_at b_Mr_act1 12 t_Mr_act1_12 := dk_go 1 a_Mr_act1_11 rfl
theorem a_Mr_act1_13 : dk_at b_Mr_act1 13 t_Mr_act1_13 := dk_go 1 a_Mr_act1_12 rfl
theorem a_Mr_act1_14 : dk_at b_Mr_act1 14 t_Mr_act1_14 := dk_go 1 a_Mr_act1_13 rfl
theorem a_Mr_act1_15 : dk_at b_Mr_act1 15 t_Mr_act1_15 := dk_go 1 a_Mr_act1_14 rfl
theorem a_Mr_act1_16 : dk_at b_Mr_act1 16 t_Mr_act1_16 := dk_go 1 a_Mr_act1_15 rfl
theorem a_Mr_act1_19 : dk_at b_Mr_act1 19 t_Mr_act1_19 := dk_go 3 a_Mr_act1_16 rfl
theorem a_Mr_act1_22 : dk_at b_Mr_act1 22 t_Mr_act1_22 := dk_go 3 a_Mr_act1_19 rfl
theorem a_Mr_act1_23 : dk_at b_Mr_act1 23 t_Mr_act1_23 := dk_go 1 a_Mr_act1_22 rfl
theorem a_Mr_act1_26 : dk_at b_Mr_act1 26 t_Mr_act1_26 := dk_go 3 a_Mr_act1_23 rfl
theorem a_Mr_act1_27 : dk_at b_Mr_act1 27 t_Mr_act1_27 := dk_go 1 a_Mr_act1_26 rfl
theorem a_Mr_act1_28 : dk_at b_Mr_act1 28 t_Mr_act1_28 := dk_go 1 a_Mr_act1_27 rfl
theorem a_Mr_act1_31 : dk_at b_Mr_act1 31 t_Mr_act1_31 := dk_go 3 a_Mr_act1_28 rfl
theorem a_Mr_act1_32 : dk_at b_Mr_act1 32 t_Mr_act1_32 := dk_go 1 a_Mr_act1_31 rfl
theorem a_Mr_act1_35 : dk_at b_Mr_act1 35 t_Mr_act1_35 := dk_go 3 a_Mr_act1_32 rfl
theorem a_Mr_act1_36 : dk_at b_Mr_act1 36 t_Mr_act1_36 := dk_go 1 a_Mr_act1_35 rfl
theorem a_Mr_act1_37 : dk_at b_Mr_act1 37 t_Mr_act1_37 := dk_go 1 a_Mr_act1_36 rfl
theorem a_Mr_act1_40 : dk_at b_Mr_act1 40 t_Mr_act1_40 := dk_go 3 a_Mr_act1_37 rfl
theorem a_Mr_act1_41 : dk_at b_Mr_act1 41 t_Mr_act1_41 := dk_go 1 a_Mr_act1_40 rfl
theorem a_Mr_act1_42 : dk_at b_Mr_act1 42 t_Mr_act1_42 := dk_go 1 a_Mr_act1_41 rfl
theorem a_Mr_act1_45 : dk_at b_Mr_act1 45 t_Mr_act1_45 := dk_go 3 a_Mr_act1_42 rfl
theorem a_Mr_act1_48 : dk_at b_Mr_act1 48 t_Mr_act1_48 := dk_go 3 a_Mr_act1_45 rfl
theorem a_Mr_act1_49 : dk_at b_Mr_act1 49 t_Mr_act1_49 := dk_go 1 a_Mr_act1_48 rfl
theorem a_Mr_act1_52 : dk_at b_Mr_act1 52 t_Mr_act1_52 := dk_go 3 a_Mr_act1_49 rfl
theorem a_Mr_act1_53 : dk_at b_Mr_act1 53 t_Mr_act1_53 := dk_go 1 a_Mr_act1_52 rfl
theorem a_Mr_act1_54 : dk_at b_Mr_act1 54 t_Mr_act1_54 := dk_go 1 a_Mr_act1_53 rfl
theorem a_Mr_act1_55 : dk_at b_Mr_act1 55 t_Mr_act1_55 := dk_go 1 a_Mr_act1_54 rfl
theorem a_Mr_act1_58 : dk_at b_Mr_act1 58 t_Mr_act1_58 := dk_go 3 a_Mr_act1_55 rfl
theorem a_Mr_act1_60 : dk_at b_Mr_act1 60 t_Mr_act1_60 := dk_go 2 a_Mr_act1_58 rfl
theorem a_Mr_act1_61 : dk_at b_Mr_act1 61 t_Mr_act1_61 := dk_go 1 a_Mr_act1_60 rfl
theorem a_Mr_act1_64 : dk_at b_Mr_act1 64 t_Mr_act1_64 := dk_go 3 a_Mr_act1_61 rfl
theorem a_Mr_act1_65 : dk_at b_Mr_act1 65 t_Mr_act1_65 := dk_go 1 a_Mr_act1_64 rfl
theorem a_Mr_act1_66 : dk_at b_Mr_act1 66 t_Mr_act1_66 := dk_go 1 a_Mr_act1_65 rfl
theorem a_Mr_act1_67 : dk_at b_Mr_act1 67 t_Mr_act1_67 := dk_go 1 a_Mr_act1_66 rfl
theorem a_Mr_act1_68 : dk_at b_Mr_act1 68 t_Mr_act1_68 := dk_go 1 a_Mr_act1_67 rfl
theorem a_Mr_act1_71 : dk_at b_Mr_act1 71 t_Mr_act1_71 := dk_go 3 a_Mr_act1_68 rfl
theorem a_Mr_act1_72 : dk_at b_Mr_act1 72 t_Mr_act1_72 := dk_go 1 a_Mr_act1_71 rfl
theorem a_Mr_act1_75 : dk_at b_Mr_act1 75 t_Mr_act1_75 := dk_go 3 a_Mr_act1_72 rfl
theorem a_Mr_act1_76 : dk_at b_Mr_act1 76 t_Mr_act1_76 := dk_go 1 a_Mr_act1_75 rfl
theorem a_Mr_act1_77 : dk_at b_Mr_act1 77 t_Mr_act1_77 := dk_go 1 a_Mr_act1_76 rfl
theorem a_Mr_act1_78 : dk_at b_Mr_act1 78 t_Mr_act1_78 := dk_go 1 a_Mr_act1_77 rfl
theorem a_Mr_act1_81 : dk_at b_Mr_act1 81 t_Mr_act1_81 := dk_go 3 a_Mr_act1_78 rfl
theorem a_Mr_act1_82 : dk_at b_Mr_act1 82 t_Mr_act1_82 := dk_go 1 a_Mr_act1_81 rfl
theorem a_Mr_act1_83 : dk_at b_Mr_act1 83 t_Mr_act1_83 := dk_go 1 a_Mr_act1_82 rfl
theorem a_Mr_act1_84 : dk_at b_Mr_act1 84 t_Mr_act1_84 := dk_go 1 a_Mr_act1_83 rfl
theorem a_Mr_act1_87 : dk_at b_Mr_act1 87 t_Mr_act1_87 := dk_go 3 a_Mr_act1_84 rfl
theorem a_Mr_act1_90 : dk_at b_Mr_act1 90 t_Mr_act1_90 := dk_go 3 a_Mr_act1_87 rfl
theorem a_Mr_act1_91 : dk_at b_Mr_act1 91 t_Mr_act1_91 := dk_go 1 a_Mr_act1_90 rfl
theorem a_Mr_act1_92 : dk_at b_Mr_act1 92 t_Mr_act1_92 := dk_go 1 a_Mr_act1_91 rfl
theorem a_Mr_act1_93 : dk_at b_Mr_act1 93 t_Mr_act1_93 := dk_go 1 a_Mr_act1_92 rfl
theorem a_Mr_act1_94 : dk_at b_Mr_act1 94 t_Mr_act1_94 := dk_go 1 a_Mr_act1_93 rfl
theorem a_Mr_act1_97 : dk_at b_Mr_act1 97 t_Mr_act1_97 := dk_go 3 a_Mr_act1_94 rfl
theorem a_Mr_act1_100 : dk_at b_Mr_act1 100 t_Mr_act1_100 := dk_go 3 a_Mr_act1_97 rfl
theorem a_Mr_act1_101 : dk_at b_Mr_act1 101 t_Mr_act1_101 := dk_go 1 a_Mr_act1_100 rfl
theorem d_Mr_act1_0 : decode b_Mr_act1 0 = .ok (.iload_n 1, 1) := dk_0 a_Mr_act1_0 (dko_27 _)
theorem d_Mr_act1_1 : decode b_Mr_act1 1 = .ok (.ifCond .lt 9, 3) := dk_S2 a_Mr_act1_1 (dko_155 _) (by decide +kernel)
theorem d_Mr_act1_4 : decode b_Mr_act1 4 = .ok (.iload_n 1, 1) := dk_0 a_Mr_act1_4 (dko_27 _)
theorem d_Mr_act1_5 : decode b_Mr_act1 5 = .ok (.bipush 31, 2) := dk_S1 a_Mr_act1_5 (dko_16 _) (by decide +kernel)
theorem d_Mr_act1_7 : decode b_Mr_act1 7 = .ok (.if_icmp .le 5, 3) := dk_S2 a_Mr_act1_7 (dko_164 _) (by decide +kernel)
theorem d_Mr_act1_10 : decode b_Mr_act1 10 = .ok (.iconst (-1), 1) := dk_0 a_Mr_act1_10 (dko_2 _)
theorem d_Mr_act1_11 : decode b_Mr_act1 11 = .ok (.ireturn, 1) := dk_0 a_Mr_act1_11 (dko_172 _)
theorem d_Mr_act1_12 : decode b_Mr_act1 12 = .ok (.iconst 0, 1) := dk_0 a_Mr_act1_12 (dko_3 _)
theorem d_Mr_act1_13 : decode b_Mr_act1 13 = .ok (.istore_n 2, 1) := dk_0 a_Mr_act1_13 (dko_61 _)
theorem d_Mr_act1_14 : decode b_Mr_act1 14 = .ok (.iload_n 2, 1) := dk_0 a_Mr_act1_14 (dko_28 _)
theorem d_Mr_act1_15 : decode b_Mr_act1 15 = .ok (.aload_n 0, 1) := dk_0 a_Mr_act1_15 (dko_42 _)
theorem d_Mr_act1_16 : decode b_Mr_act1 16 = .ok (.getfield 133, 3) := dk_U2 a_Mr_act1_16 (dko_180 _) rfl
theorem d_Mr_act1_19 : decode b_Mr_act1 19 = .ok (.if_icmp .ge 81, 3) := dk_S2 a_Mr_act1_19 (dko_162 _) (by decide +kernel)
theorem d_Mr_act1_22 : decode b_Mr_act1 22 = .ok (.aload_n 0, 1) := dk_0 a_Mr_act1_22 (dko_42 _)
theorem d_Mr_act1_23 : decode b_Mr_act1 23 = .ok (.getfield 56, 3) := dk_U2 a_Mr_act1_23 (dko_180 _) rfl
theorem d_Mr_act1_26 : decode b_Mr_act1 26 = .ok (.iload_n 2, 1) := dk_0 a_Mr_act1_26 (dko_28 _)
theorem d_Mr_act1_27 : decode b_Mr_act1 27 = .ok (.iaload, 1) := dk_0 a_Mr_act1_27 (dko_46 _)
theorem d_Mr_act1_28 : decode b_Mr_act1 28 = .ok (.ifCond .ne 47, 3) := dk_S2 a_Mr_act1_28 (dko_154 _) (by decide +kernel)
theorem d_Mr_act1_31 : decode b_Mr_act1 31 = .ok (.aload_n 0, 1) := dk_0 a_Mr_act1_31 (dko_42 _)
theorem d_Mr_act1_32 : decode b_Mr_act1 32 = .ok (.getfield 53, 3) := dk_U2 a_Mr_act1_32 (dko_180 _) rfl
theorem d_Mr_act1_35 : decode b_Mr_act1 35 = .ok (.iload_n 2, 1) := dk_0 a_Mr_act1_35 (dko_28 _)
theorem d_Mr_act1_36 : decode b_Mr_act1 36 = .ok (.baload, 1) := dk_0 a_Mr_act1_36 (dko_51 _)
theorem d_Mr_act1_37 : decode b_Mr_act1 37 = .ok (.ifCond .ne 34, 3) := dk_S2 a_Mr_act1_37 (dko_154 _) (by decide +kernel)
theorem d_Mr_act1_40 : decode b_Mr_act1 40 = .ok (.aload_n 0, 1) := dk_0 a_Mr_act1_40 (dko_42 _)
theorem d_Mr_act1_41 : decode b_Mr_act1 41 = .ok (.iload_n 2, 1) := dk_0 a_Mr_act1_41 (dko_28 _)
theorem d_Mr_act1_42 : decode b_Mr_act1 42 = .ok (.invokevirtual 143, 3) := dk_U2 a_Mr_act1_42 (dko_182 _) rfl
theorem d_Mr_act1_45 : decode b_Mr_act1 45 = .ok (.ifCond .eq 30, 3) := dk_S2 a_Mr_act1_45 (dko_153 _) (by decide +kernel)
theorem d_Mr_act1_48 : decode b_Mr_act1 48 = .ok (.aload_n 0, 1) := dk_0 a_Mr_act1_48 (dko_42 _)
theorem d_Mr_act1_49 : decode b_Mr_act1 49 = .ok (.getfield 50, 3) := dk_U2 a_Mr_act1_49 (dko_180 _) rfl
theorem d_Mr_act1_52 : decode b_Mr_act1 52 = .ok (.iload_n 2, 1) := dk_0 a_Mr_act1_52 (dko_28 _)
theorem d_Mr_act1_53 : decode b_Mr_act1 53 = .ok (.iaload, 1) := dk_0 a_Mr_act1_53 (dko_46 _)
theorem d_Mr_act1_54 : decode b_Mr_act1 54 = .ok (.aload_n 0, 1) := dk_0 a_Mr_act1_54 (dko_42 _)
theorem d_Mr_act1_55 : decode b_Mr_act1 55 = .ok (.getfield 40, 3) := dk_U2 a_Mr_act1_55 (dko_180 _) rfl
theorem d_Mr_act1_58 : decode b_Mr_act1 58 = .ok (.bipush 40, 2) := dk_S1 a_Mr_act1_58 (dko_16 _) (by decide +kernel)
theorem d_Mr_act1_60 : decode b_Mr_act1 60 = .ok (.aload_n 0, 1) := dk_0 a_Mr_act1_60 (dko_42 _)
theorem d_Mr_act1_61 : decode b_Mr_act1 61 = .ok (.getfield 85, 3) := dk_U2 a_Mr_act1_61 (dko_180 _) rfl
theorem d_Mr_act1_64 : decode b_Mr_act1 64 = .ok (.imul, 1) := dk_0 a_Mr_act1_64 (dko_104 _)
theorem d_Mr_act1_65 : decode b_Mr_act1 65 = .ok (.iload_n 2, 1) := dk_0 a_Mr_act1_65 (dko_28 _)
theorem d_Mr_act1_66 : decode b_Mr_act1 66 = .ok (.iadd, 1) := dk_0 a_Mr_act1_66 (dko_96 _)
theorem d_Mr_act1_67 : decode b_Mr_act1 67 = .ok (.iaload, 1) := dk_0 a_Mr_act1_67 (dko_46 _)
theorem d_Mr_act1_68 : decode b_Mr_act1 68 = .ok (.if_icmp .lt 7, 3) := dk_S2 a_Mr_act1_68 (dko_161 _) (by decide +kernel)
theorem d_Mr_act1_71 : decode b_Mr_act1 71 = .ok (.iconst 1, 1) := dk_0 a_Mr_act1_71 (dko_4 _)
theorem d_Mr_act1_72 : decode b_Mr_act1 72 = .ok (.goto 4, 3) := dk_S2 a_Mr_act1_72 (dko_167 _) (by decide +kernel)
theorem d_Mr_act1_75 : decode b_Mr_act1 75 = .ok (.iconst 0, 1) := dk_0 a_Mr_act1_75 (dko_3 _)
theorem d_Mr_act1_76 : decode b_Mr_act1 76 = .ok (.istore_n 3, 1) := dk_0 a_Mr_act1_76 (dko_62 _)
theorem d_Mr_act1_77 : decode b_Mr_act1 77 = .ok (.iload_n 3, 1) := dk_0 a_Mr_act1_77 (dko_29 _)
theorem d_Mr_act1_78 : decode b_Mr_act1 78 = .ok (.ifCond .eq 16, 3) := dk_S2 a_Mr_act1_78 (dko_153 _) (by decide +kernel)
theorem d_Mr_act1_81 : decode b_Mr_act1 81 = .ok (.aload_n 0, 1) := dk_0 a_Mr_act1_81 (dko_42 _)
theorem d_Mr_act1_82 : decode b_Mr_act1 82 = .ok (.iload_n 2, 1) := dk_0 a_Mr_act1_82 (dko_28 _)
theorem d_Mr_act1_83 : decode b_Mr_act1 83 = .ok (.iload_n 1, 1) := dk_0 a_Mr_act1_83 (dko_27 _)
theorem d_Mr_act1_84 : decode b_Mr_act1 84 = .ok (.invokevirtual 147, 3) := dk_U2 a_Mr_act1_84 (dko_182 _) rfl
theorem d_Mr_act1_87 : decode b_Mr_act1 87 = .ok (.ifCond .eq 7, 3) := dk_S2 a_Mr_act1_87 (dko_153 _) (by decide +kernel)
theorem d_Mr_act1_90 : decode b_Mr_act1 90 = .ok (.iload_n 2, 1) := dk_0 a_Mr_act1_90 (dko_28 _)
theorem d_Mr_act1_91 : decode b_Mr_act1 91 = .ok (.iconst 1, 1) := dk_0 a_Mr_act1_91 (dko_4 _)
theorem d_Mr_act1_92 : decode b_Mr_act1 92 = .ok (.iadd, 1) := dk_0 a_Mr_act1_92 (dko_96 _)
theorem d_Mr_act1_93 : decode b_Mr_act1 93 = .ok (.ireturn, 1) := dk_0 a_Mr_act1_93 (dko_172 _)
theorem d_Mr_act1_94 : decode b_Mr_act1 94 = .ok (.iinc 2 1, 3) := dk_US a_Mr_act1_94 (dko_132 _) (by decide +kernel)
theorem d_Mr_act1_97 : decode b_Mr_act1 97 = .ok (.goto (-83), 3) := dk_S2 a_Mr_act1_97 (dko_167 _) (by decide +kernel)
theorem d_Mr_act1_100 : decode b_Mr_act1 100 = .ok (.iconst 0, 1) := dk_0 a_Mr_act1_100 (dko_3 _)
theorem d_Mr_act1_101 : decode b_Mr_act1 101 = .ok (.ireturn, 1) := dk_0 a_Mr_act1_101 (dko_172 _)
set_option maxHeartbeats 4000000 in
set_option maxRecDepth 100000 in
theorem ok_Mr_act1 (pc : Nat) : OpS mt mi_Mr_act1 pc (cs_Mr_act1 pc) := (os_n (os_n (os_n (os_n (os_n (os_l (so_iload_n d_Mr_act1_0 rfl)) (os_n (os_l (so_iflt d_Mr_act1_1 (by decide))) (os_l (so_iload_n d_Mr_act1_4 rfl)))) (os_n (os_n (os_l (so_bipush d_Mr_act1_5 (by decide))) (os_l (so_icle d_Mr_act1_7 (by decide)))) (os_n (os_l (so_iconst d_Mr_act1_10 (by decide))) (os_l (so_ireturn rfl d_Mr_act1_11))))) (os_n (os_n (os_n (os_l (so_iconst d_Mr_act1_12 (by decide))) (os_l (so_istore_n d_Mr_act1_13 rfl (by decide)))) (os_n (os_l (so_iload_n d_Mr_act1_14 rfl)) (os_l (so_aload_n d_Mr_act1_15 rfl)))) (os_n (os_n (os_l (so_get (C := R_Mr) (T := F_Mr) (N := 25) (j := 20) in_Mr rfl (by decide) mw_1732 d_Mr_act1_16)) (os_l (so_icge d_Mr_act1_19 (by decide)))) (os_n (os_l (so_aload_n d_Mr_act1_22 rfl)) (os_l (so_get (C := R_Mr) (T := F_Mr) (N := 25) (j := 23) in_Mr rfl (by decide) mw_1738 d_Mr_act1_23)))))) (os_n (os_n (os_n (os_l (so_iload_n d_Mr_act1_26 rfl)) (os_n (os_l (so_iaload d_Mr_act1_27)) (os_l (so_ifne d_Mr_act1_28 (by decide))))) (os_n (os_n (os_l (so_aload_n d_Mr_act1_31 rfl)) (os_l (so_get (C := R_Mr) (T := F_Mr) (N := 25) (j := 22) in_Mr rfl (by decide) mw_1736 d_Mr_act1_32))) (os_n (os_l (so_iload_n d_Mr_act1_35 rfl)) (os_l (so_baload d_Mr_act1_36))))) (os_n (os_n (os_n (os_l (so_ifne d_Mr_act1_37 (by decide))) (os_l (so_aload_n d_Mr_act1_40 rfl))) (os_n (os_l (so_iload_n d_Mr_act1_41 rfl)) (os_l (so_callV (iv := mi_Mr_isOn) rfl rfl rfl mw_2482 mw_2484 sl_163 mw_20 mw_2485 ⟨by decide +kernel, by decide +kernel, by decide +kernel⟩ (by decide) d_Mr_act1_42)))) (os_n (os_n (os_l (so_ifeq d_Mr_act1_45 (by decide))) (os_l (so_aload_n d_Mr_act1_48 rfl))) (os_n (os_l (so_get (C := R_Mr) (T := F_Mr) (N := 25) (j := 21) in_Mr rfl (by decide) mw_1734 d_Mr_act1_49)) (os_l (so_iload_n d_Mr_act1_52 rfl))))))) (os_n (os_n (os_n (os_n (os_l (so_iaload d_Mr_act1_53)) (os_n (os_l (so_aload_n d_Mr_act1_54 rfl)) (os_l (so_get (C := R_Mr) (T := F_Mr) (N := 25) (j := 17) in_Mr rfl (by decide) mw_1729 d_Mr_act1_55)))) (os_n (os_n (os_l (so_bipush d_Mr_act1_58 (by decide))) (os_l (so_aload_n d_Mr_act1_60 rfl))) (os_n (os_l (so_get (C := R_Mr) (T := F_Mr) (N := 25) (j := 12) in_Mr rfl (by decide) mw_1724 d_Mr_act1_61)) (os_l (so_imul d_Mr_act1_64))))) (os_n (os_n (os_n (os_l (so_iload_n d_Mr_act1_65 rfl)) (os_l (so_iadd d_Mr_act1_66))) (os_n (os_l (so_iaload d_Mr_act1_67)) (os_l (so_iclt d_Mr_act1_68 (by decide))))) (os_n (os_n (os_l (so_iconst d_Mr_act1_71 (by decide))) (os_l (so_goto d_Mr_act1_72 (by decide)))) (os_n (os_l (so_iconst d_Mr_act1_75 (by decide))) (os_l (so_istore_n d_Mr_act1_76 rfl (by decide))))))) (os_n (os_n (os_n (os_l (so_iload_n d_Mr_act1_77 rfl)) (os_n (os_l (so_ifeq d_Mr_act1_78 (by decide))) (os_l (so_aload_n d_Mr_act1_81 rfl)))) (os_n (os_n (os_l (so_iload_n d_Mr_act1_82 rfl)) (os_l (so_iload_n d_Mr_act1_83 rfl))) (os_n (os_l (so_callV (iv := mi_Mr_hasAct) rfl rfl rfl mw_2490 mw_2492 sl_165 mw_20 mw_2493 ⟨by decide +kernel, by decide +kernel, by decide +kernel⟩ (by decide) d_Mr_act1_84)) (os_l (so_ifeq d_Mr_act1_87 (by decide)))))) (os_n (os_n (os_n (os_l (so_iload_n d_Mr_act1_90 rfl)) (os_l (so_iconst d_Mr_act1_91 (by decide)))) (os_n (os_l (so_iadd d_Mr_act1_92)) (os_l (so_ireturn rfl d_Mr_act1_93)))) (os_n (os_n (os_l (so_iinc d_Mr_act1_94 (by decide) (by decide))) (os_l (so_goto d_Mr_act1_97 (by decide)))) (os_n (os_l (so_iconst d_Mr_act1_100 (by decide))) (os_l (so_ireturn rfl d_Mr_act1_101))))))))
abbrev t_Mr_hasAct_63 : List UInt8 := 172 :: []
abbrev t_Mr_hasAct_61 : List UInt8 := 21 :: 4 :: t_Mr_hasAct_63
abbrev t_Mr_hasAct_58 : List UInt8 := 167 :: 255 :: 214 :: t_Mr_hasAct_61
abbrev t_Mr_hasAct_55 : List UInt8 := 132 :: 5 :: 1 :: t_Mr_hasAct_58
abbrev t_Mr_hasAct_53 : List UInt8 := 54 :: 4 :: t_Mr_hasAct_55
abbrev t_Mr_hasAct_52 : List UInt8 := 3 :: t_Mr_hasAct_53
abbrev t_Mr_hasAct_49 : List UInt8 := 167 :: 0 :: 4 :: t_Mr_hasAct_52
abbrev t_Mr_hasAct_48 : List UInt8 := 4 :: t_Mr_hasAct_49
abbrev t_Mr_hasAct_45 : List UInt8 := 160 :: 0 :: 7 :: t_Mr_hasAct_48
abbrev t_Mr_hasAct_44 : List UInt8 := 28 :: t_Mr_hasAct_45
abbrev t_Mr_hasAct_43 : List UInt8 := 46 :: t_Mr_hasAct_44
abbrev t_Mr_hasAct_42 : List UInt8 := 96 :: t_Mr_hasAct_43
abbrev t_Mr_hasAct_40 : List UInt8 := 21 :: 5 :: t_Mr_hasAct_42
abbrev t_Mr_hasAct_39 : List UInt8 := 104 :: t_Mr_hasAct_40
abbrev t_Mr_hasAct_38 : List UInt8 := 29 :: t_Mr_hasAct_39
abbrev t_Mr_hasAct_36 : List UInt8 := 16 :: 8 :: t_Mr_hasAct_38
abbrev t_Mr_hasAct_33 : List UInt8 := 180 :: 0 :: 37 :: t_Mr_hasAct_36
abbrev t_Mr_hasAct_32 : List UInt8 := 42 :: t_Mr_hasAct_33
abbrev t_Mr_hasAct_29 : List UInt8 := 154 :: 0 :: 19 :: t_Mr_hasAct_32
abbrev t_Mr_hasAct_27 : List UInt8 := 21 :: 4 :: t_Mr_hasAct_29
abbrev t_Mr_hasAct_24 : List UInt8 := 162 :: 0 :: 37 :: t_Mr_hasAct_27
abbrev t_Mr_hasAct_23 : List UInt8 := 46 :: t_Mr_hasAct_24
abbrev t_Mr_hasAct_22 : List UInt8 := 29 :: t_Mr_hasAct_23
abbrev t_Mr_hasAct_19 : List UInt8 := 180 :: 0 :: 34 :: t_Mr_hasAct_22
abbrev t_Mr_hasAct_18 : List UInt8 := 42 :: t_Mr_hasAct_19
abbrev t_Mr_hasAct_16 : List UInt8 := 21 :: 5 :: t_Mr_hasAct_18
abbrev t_Mr_hasAct_14 : List UInt8 := 54 :: 5 :: t_Mr_hasAct_16
abbrev t_Mr_hasAct_13 : List UInt8 := 3 :: t_Mr_hasAct_14
abbrev t_Mr_hasAct_11 : List UInt8 := 54 :: 4 :: t_Mr_hasAct_13
abbrev t_Mr_hasAct_10 : List UInt8 := 3 :: t_Mr_hasAct_11
abbrev t_Mr_hasAct_9 : List UInt8 := 62 :: t_Mr_hasAct_10
abbrev t_Mr_hasAct_8 : List UInt8 := 96 :: t_Mr_hasAct_9
abbrev t_Mr_hasAct_7 : List UInt8 := 27 :: t_Mr_hasAct_8
abbrev t_Mr_hasAct_6 : List UInt8 := 104 :: t_Mr_hasAct_7
abbrev t_Mr_hasAct_3 : List UInt8 := 180 :: 0 :: 85 :: t_Mr_hasAct_6
abbrev t_Mr_hasAct_2 : List UInt8 := 42 :: t_Mr_hasAct_3
abbrev t_Mr_hasAct_0 : List UInt8 := 16 :: 40 :: t_Mr_hasAct_2
theorem a_Mr_hasAct_0 : dk_at b_Mr_hasAct 0 t_Mr_hasAct_0 := dk_start (by decide +kernel)
theorem a_Mr_hasAct_2 : dk_at b_Mr_hasAct 2 t_Mr_hasAct_2 := dk_go 2 a_Mr_hasAct_0 rfl
theorem a_Mr_hasAct_3 : dk_at b_Mr_hasAct 3 t_Mr_hasAct_3 := dk_go 1 a_Mr_hasAct_2 rfl
theorem a_Mr_hasAct_6 : dk_at b_Mr_hasAct 6 t_Mr_hasAct_6 := dk_go 3 a_Mr_hasAct_3 rfl
theorem a_Mr_hasAct_7 : dk_at b_Mr_hasAct 7 t_Mr_hasAct_7 := dk_go 1 a_Mr_hasAct_6 rfl
theorem a_Mr_hasAct_8 : dk_at b_Mr_hasAct 8 t_Mr_hasAct_8 := dk_go 1 a_Mr_hasAct_7 rfl
theorem a_Mr_hasAct_9 : dk_at b_Mr_hasAct 9 t_Mr_hasAct_9 := dk_go 1 a_Mr_hasAct_8 rfl
theorem a_Mr_hasAct_10 : dk_at b_Mr_hasAct 10 t_Mr_hasAct_10 := dk_go 1 a_Mr_hasAct_9 rfl
theorem a_Mr_hasAct_11 : dk_at b_Mr_hasAct 11 t_Mr_hasAct_11 := dk_go 1 a_Mr_hasAct_10 rfl
theorem a_Mr_hasAct_13 : dk_at b_Mr_hasAct 13 t_Mr_hasAct_13 := dk_go 2 a_Mr_hasAct_11 rfl
theorem a_Mr_hasAct_14 : dk_at b_Mr_hasAct 14 t_Mr_hasAct_14 := dk_go 1 a_Mr_hasAct_13 rfl
theorem a_Mr_hasAct_16 : dk_at b_Mr_hasAct 16 t_Mr_hasAct_16 := dk_go 2 a_Mr_hasAct_14 rfl
theorem a_Mr_hasAct_18 : dk_at b_Mr_hasAct 18 t_Mr_hasAct_18 := dk_go 2 a_Mr_hasAct_16 rfl
theorem a_Mr_hasAct_19 : dk_at b_Mr_hasAct 19 t_Mr_hasAct_19 := dk_go 1 a_Mr_hasAct_18 rfl
theorem a_Mr_hasAct_22 : dk_at b_Mr_hasAct 22 t_Mr_hasAct_22 := dk_go 3 a_Mr_hasAct_19 rfl
theorem a_Mr_hasAct_23 : dk_at b_Mr_hasAct 23 t_Mr_hasAct_23 := dk_go 1 a_Mr_hasAct_22 rfl
theorem a_Mr_hasAct_24 : dk_at b_Mr_hasAct 24 t_Mr_hasAct_24 := dk_go 1 a_Mr_hasAct_23 rfl
theorem a_Mr_hasAct_27 : dk_at b_Mr_hasAct 27 t_Mr_hasAct_27 := dk_go 3 a_Mr_hasAct_24 rfl
theorem a_Mr_hasAct_29 : dk_at b_Mr_hasAct 29 t_Mr_hasAct_29 := dk_go 2 a_Mr_hasAct_27 rfl
theorem a_Mr_hasAct_32 : dk_at b_Mr_hasAct 32 t_Mr_hasAct_32 := dk_go 3 a_Mr_hasAct_29 rfl
theorem a_Mr_hasAct_33 : dk_at b_Mr_hasAct 33 t_Mr_hasAct_33 := dk_go 1 a_Mr_hasAct_32 rfl
theorem a_Mr_hasAct_36 : dk_at b_Mr_hasAct 36 t_Mr_hasAct_36 := dk_go 3 a_Mr_hasAct_33 rfl
theorem a_Mr_hasAct_38 : dk_at b_Mr_hasAct 38 t_Mr_hasAct_38 := dk_go 2 a_Mr_hasAct_36 rfl
theorem a_Mr_hasAct_39 : dk_at b_Mr_hasAct 39 t_Mr_hasAct_39 := dk_go 1 a_Mr_hasAct_38 rfl
theorem a_Mr_hasAct_40 : dk_at b_Mr_hasAct 40 t_Mr_hasAct_40 := dk_go 1 a_Mr_hasAct_39 rfl
theorem a_Mr_hasAct_42 : dk_at b_Mr_hasAct 42 t_Mr_hasAct_42 := dk_go 2 a_Mr_hasAct_40 rfl
theorem a_Mr_hasAct_43 : dk_at b_Mr_hasAct 43 t_Mr_hasAct_43 := dk_go 1 a_Mr_hasAct_42 rfl
theorem a_Mr_hasAct_44 : dk_at b_Mr_hasAct 44 t_Mr_hasAct_44 := dk_go 1 a_Mr_hasAct_43 rfl
theorem a_Mr_hasAct_45 : dk_at b_Mr_hasAct 45 t_Mr_hasAct_45 := dk_go 1 a_Mr_hasAct_44 rfl
theorem a_Mr_hasAct_48 : dk_at b_Mr_hasAct 48 t_Mr_hasAct_48 := dk_go 3 a_Mr_hasAct_45 rfl
theorem a_Mr_hasAct_49 : dk_at b_Mr_hasAct 49 t_Mr_hasAct_49 := dk_go 1 a_Mr_hasAct_48 rfl
theorem a_Mr_hasAct_52 : dk_at b_Mr_hasAct 52 t_Mr_hasAct_52 := dk_go 3 a_Mr_hasAct_49 rfl
theorem a_Mr_hasAct_53 : dk_at b_Mr_hasAct 53 t_Mr_hasAct_53 := dk_go 1 a_Mr_hasAct_52 rfl
theorem a_Mr_hasAct_55 : dk_at b_Mr_hasAct 55 t_Mr_hasAct_55 := dk_go 2 a_Mr_hasAct_53 rfl
theorem a_Mr_hasAct_58 : dk_at b_Mr_hasAct 58 t_Mr_hasAct_58 := dk_go 3 a_Mr_hasAct_55 rfl
theorem a_Mr_hasAct_61 : dk_at b_Mr_hasAct 61 t_Mr_hasAct_61 := dk_go 3 a_Mr_hasAct_58 rfl
theorem a_Mr_hasAct_63 : dk_at b_Mr_hasAct 63 t_Mr_hasAct_63 := dk_go 2 a_Mr_hasAct_61 rfl
theorem d_Mr_hasAct_0 : decode b_Mr_hasAct 0 = .ok (.bipush 40, 2) := dk_S1 a_Mr_hasAct_0 (dko_16 _) (by decide +kernel)
theorem d_Mr_hasAct_2 : decode b_Mr_hasAct 2 = .ok (.aload_n 0, 1) := dk_0 a_Mr_hasAct_2 (dko_42 _)
theorem d_Mr_hasAct_3 : decode b_Mr_hasAct 3 = .ok (.getfield 85, 3) := dk_U2 a_Mr_hasAct_3 (dko_180 _) rfl
theorem d_Mr_hasAct_6 : decode b_Mr_hasAct 6 = .ok (.imul, 1) := dk_0 a_Mr_hasAct_6 (dko_104 _)
theorem d_Mr_hasAct_7 : decode b_Mr_hasAct 7 = .ok (.iload_n 1, 1) := dk_0 a_Mr_hasAct_7 (dko_27 _)
theorem d_Mr_hasAct_8 : decode b_Mr_hasAct 8 = .ok (.iadd, 1) := dk_0 a_Mr_hasAct_8 (dko_96 _)
theorem d_Mr_hasAct_9 : decode b_Mr_hasAct 9 = .ok (.istore_n 3, 1) := dk_0 a_Mr_hasAct_9 (dko_62 _)
theorem d_Mr_hasAct_10 : decode b_Mr_hasAct 10 = .ok (.iconst 0, 1) := dk_0 a_Mr_hasAct_10 (dko_3 _)
theorem d_Mr_hasAct_11 : decode b_Mr_hasAct 11 = .ok (.istore 4, 2) := dk_U1 a_Mr_hasAct_11 (dko_54 _) rfl
theorem d_Mr_hasAct_13 : decode b_Mr_hasAct 13 = .ok (.iconst 0, 1) := dk_0 a_Mr_hasAct_13 (dko_3 _)
theorem d_Mr_hasAct_14 : decode b_Mr_hasAct 14 = .ok (.istore 5, 2) := dk_U1 a_Mr_hasAct_14 (dko_54 _) rfl
theorem d_Mr_hasAct_16 : decode b_Mr_hasAct 16 = .ok (.iload 5, 2) := dk_U1 a_Mr_hasAct_16 (dko_21 _) rfl
theorem d_Mr_hasAct_18 : decode b_Mr_hasAct 18 = .ok (.aload_n 0, 1) := dk_0 a_Mr_hasAct_18 (dko_42 _)
theorem d_Mr_hasAct_19 : decode b_Mr_hasAct 19 = .ok (.getfield 34, 3) := dk_U2 a_Mr_hasAct_19 (dko_180 _) rfl
theorem d_Mr_hasAct_22 : decode b_Mr_hasAct 22 = .ok (.iload_n 3, 1) := dk_0 a_Mr_hasAct_22 (dko_29 _)
theorem d_Mr_hasAct_23 : decode b_Mr_hasAct 23 = .ok (.iaload, 1) := dk_0 a_Mr_hasAct_23 (dko_46 _)
theorem d_Mr_hasAct_24 : decode b_Mr_hasAct 24 = .ok (.if_icmp .ge 37, 3) := dk_S2 a_Mr_hasAct_24 (dko_162 _) (by decide +kernel)
theorem d_Mr_hasAct_27 : decode b_Mr_hasAct 27 = .ok (.iload 4, 2) := dk_U1 a_Mr_hasAct_27 (dko_21 _) rfl
theorem d_Mr_hasAct_29 : decode b_Mr_hasAct 29 = .ok (.ifCond .ne 19, 3) := dk_S2 a_Mr_hasAct_29 (dko_154 _) (by decide +kernel)
theorem d_Mr_hasAct_32 : decode b_Mr_hasAct 32 = .ok (.aload_n 0, 1) := dk_0 a_Mr_hasAct_32 (dko_42 _)
theorem d_Mr_hasAct_33 : decode b_Mr_hasAct 33 = .ok (.getfield 37, 3) := dk_U2 a_Mr_hasAct_33 (dko_180 _) rfl
theorem d_Mr_hasAct_36 : decode b_Mr_hasAct 36 = .ok (.bipush 8, 2) := dk_S1 a_Mr_hasAct_36 (dko_16 _) (by decide +kernel)
theorem d_Mr_hasAct_38 : decode b_Mr_hasAct 38 = .ok (.iload_n 3, 1) := dk_0 a_Mr_hasAct_38 (dko_29 _)
theorem d_Mr_hasAct_39 : decode b_Mr_hasAct 39 = .ok (.imul, 1) := dk_0 a_Mr_hasAct_39 (dko_104 _)
theorem d_Mr_hasAct_40 : decode b_Mr_hasAct 40 = .ok (.iload 5, 2) := dk_U1 a_Mr_hasAct_40 (dko_21 _) rfl
theorem d_Mr_hasAct_42 : decode b_Mr_hasAct 42 = .ok (.iadd, 1) := dk_0 a_Mr_hasAct_42 (dko_96 _)
theorem d_Mr_hasAct_43 : decode b_Mr_hasAct 43 = .ok (.iaload, 1) := dk_0 a_Mr_hasAct_43 (dko_46 _)
theorem d_Mr_hasAct_44 : decode b_Mr_hasAct 44 = .ok (.iload_n 2, 1) := dk_0 a_Mr_hasAct_44 (dko_28 _)
theorem d_Mr_hasAct_45 : decode b_Mr_hasAct 45 = .ok (.if_icmp .ne 7, 3) := dk_S2 a_Mr_hasAct_45 (dko_160 _) (by decide +kernel)
theorem d_Mr_hasAct_48 : decode b_Mr_hasAct 48 = .ok (.iconst 1, 1) := dk_0 a_Mr_hasAct_48 (dko_4 _)
theorem d_Mr_hasAct_49 : decode b_Mr_hasAct 49 = .ok (.goto 4, 3) := dk_S2 a_Mr_hasAct_49 (dko_167 _) (by decide +kernel)
theorem d_Mr_hasAct_52 : decode b_Mr_hasAct 52 = .ok (.iconst 0, 1) := dk_0 a_Mr_hasAct_52 (dko_3 _)
theorem d_Mr_hasAct_53 : decode b_Mr_hasAct 53 = .ok (.istore 4, 2) := dk_U1 a_Mr_hasAct_53 (dko_54 _) rfl
theorem d_Mr_hasAct_55 : decode b_Mr_hasAct 55 = .ok (.iinc 5 1, 3) := dk_US a_Mr_hasAct_55 (dko_132 _) (by decide +kernel)
theorem d_Mr_hasAct_58 : decode b_Mr_hasAct 58 = .ok (.goto (-42), 3) := dk_S2 a_Mr_hasAct_58 (dko_167 _) (by decide +kernel)
theorem d_Mr_hasAct_61 : decode b_Mr_hasAct 61 = .ok (.iload 4, 2) := dk_U1 a_Mr_hasAct_61 (dko_21 _) rfl
theorem d_Mr_hasAct_63 : decode b_Mr_hasAct 63 = .ok (.ireturn, 1) := dk_0 a_Mr_hasAct_63 (dko_172 _)
set_option maxHeartbeats 4000000 in
set_option maxRecDepth 100000 in
theorem ok_Mr_hasAct (pc : Nat) : OpS mt mi_Mr_hasAct pc (cs_Mr_hasAct pc) := (os_n (os_n (os_n (os_n (os_n (os_l (so_bipush d_Mr_hasAct_0 (by decide))) (os_l (so_aload_n d_Mr_hasAct_2 rfl))) (os_n (os_l (so_get (C := R_Mr) (T := F_Mr) (N := 25) (j := 12) in_Mr rfl (by decide) mw_1724 d_Mr_hasAct_3)) (os_l (so_imul d_Mr_hasAct_6)))) (os_n (os_n (os_l (so_iload_n d_Mr_hasAct_7 rfl)) (os_l (so_iadd d_Mr_hasAct_8))) (os_n (os_l (so_istore_n d_Mr_hasAct_9 rfl (by decide))) (os_n (os_l (so_iconst d_Mr_hasAct_10 (by decide))) (os_l (so_istore d_Mr_hasAct_11 (by decide))))))) (os_n (os_n (os_n (os_l (so_iconst d_Mr_hasAct_13 (by decide))) (os_l (so_istore d_Mr_hasAct_14 (by decide)))) (os_n (os_l (so_iload d_Mr_hasAct_16)) (os_l (so_aload_n d_Mr_hasAct_18 rfl)))) (os_n (os_n (os_l (so_get (C := R_Mr) (T := F_Mr) (N := 25) (j := 15) in_Mr rfl (by decide) mw_1727 d_Mr_hasAct_19)) (os_l (so_iload_n d_Mr_hasAct_22 rfl))) (os_n (os_l (so_iaload d_Mr_hasAct_23)) (os_n (os_l (so_icge d_Mr_hasAct_24 (by decide))) (os_l (so_iload d_Mr_hasAct_27))))))) (os_n (os_n (os_n (os_n (os_l (so_ifne d_Mr_hasAct_29 (by decide))) (os_l (so_aload_n d_Mr_hasAct_32 rfl))) (os_n (os_l (so_get (C := R_Mr) (T := F_Mr) (N := 25) (j := 16) in_Mr rfl (by decide) mw_1728 d_Mr_hasAct_33)) (os_l (so_bipush d_Mr_hasAct_36 (by decide))))) (os_n (os_n (os_l (so_iload_n d_Mr_hasAct_38 rfl)) (os_l (so_imul d_Mr_hasAct_39))) (os_n (os_l (so_iload d_Mr_hasAct_40)) (os_n (os_l (so_iadd d_Mr_hasAct_42)) (os_l (so_iaload d_Mr_hasAct_43)))))) (os_n (os_n (os_n (os_l (so_iload_n d_Mr_hasAct_44 rfl)) (os_l (so_icne d_Mr_hasAct_45 (by decide)))) (os_n (os_l (so_iconst d_Mr_hasAct_48 (by decide))) (os_n (os_l (so_goto d_Mr_hasAct_49 (by decide))) (os_l (so_iconst d_Mr_hasAct_52 (by decide)))))) (os_n (os_n (os_l (so_istore d_Mr_hasAct_53 (by decide))) (os_l (so_iinc d_Mr_hasAct_55 (by decide) (by decide)))) (os_n (os_l (so_goto d_Mr_hasAct_58 (by decide))) (os_n (os_l (so_iload d_Mr_hasAct_61)) (os_l (so_zreturn rfl d_Mr_hasAct_63))))))))
abbrev t_Mr_isRow_18 : List UInt8 := 172 :: []
abbrev t_Mr_isRow_17 : List UInt8 := 3 :: t_Mr_isRow_18
abbrev t_Mr_isRow_14 : List UInt8 := 167 :: 0 :: 4 :: t_Mr_isRow_17
abbrev t_Mr_isRow_13 : List UInt8 := 4 :: t_Mr_isRow_14
abbrev t_Mr_isRow_10 : List UInt8 := 163 :: 0 :: 7 :: t_Mr_isRow_13
abbrev t_Mr_isRow_7 : List UInt8 := 180 :: 0 :: 133 :: t_Mr_isRow_10
abbrev t_Mr_isRow_6 : List UInt8 := 42 :: t_Mr_isRow_7
abbrev t_Mr_isRow_5 : List UInt8 := 27 :: t_Mr_isRow_6
abbrev t_Mr_isRow_2 : List UInt8 := 161 :: 0 :: 15 :: t_Mr_isRow_5
abbrev t_Mr_isRow_1 : List UInt8 := 4 :: t_Mr_isRow_2
abbrev t_Mr_isRow_0 : List UInt8 := 27 :: t_Mr_isRow_1
theorem a_Mr_isRow_0 : dk_at b_Mr_isRow 0 t_Mr_isRow_0 := dk_start (by decide +kernel)
theorem a_Mr_isRow_1 : dk_at b_Mr_isRow 1 t_Mr_isRow_1 := dk_go 1 a_Mr_isRow_0 rfl
theorem a_Mr_isRow_2 : dk_at b_Mr_isRow 2 t_Mr_isRow_2 := dk_go 1 a_Mr_isRow_1 rfl
theorem a_Mr_isRow_5 : dk_at b_Mr_isRow 5 t_Mr_isRow_5 := dk_go 3 a_Mr_isRow_2 rfl
theorem a_Mr_isRow_6 : dk_at b_Mr_isRow 6 t_Mr_isRow_6 := dk_go 1 a_Mr_isRow_5 rfl
theorem a_Mr_isRow_7 : dk_at b_Mr_isRow 7 t_Mr_isRow_7 := dk_go 1 a_Mr_isRow_6 rfl
theorem a_Mr_isRow_10 : dk_at b_Mr_isRow 10 t_Mr_isRow_10 := dk_go 3 a_Mr_isRow_7 rfl
theorem a_Mr_isRow_13 : dk_at b_Mr_isRow 13 t_Mr_isRow_13 := dk_go 3 a_Mr_isRow_10 rfl
theorem a_Mr_isRow_14 : dk_at b_Mr_isRow 14 t_Mr_isRow_14 := dk_go 1 a_Mr_isRow_13 rfl
theorem a_Mr_isRow_17 : dk_at b_Mr_isRow 17 t_Mr_isRow_17 := dk_go 3 a_Mr_isRow_14 rfl
theorem a_Mr_isRow_18 : dk_at b_Mr_isRow 18 t_Mr_isRow_18 := dk_go 1 a_Mr_isRow_17 rfl
theorem d_Mr_isRow_0 : decode b_Mr_isRow 0 = .ok (.iload_n 1, 1) := dk_0 a_Mr_isRow_0 (dko_27 _)
theorem d_Mr_isRow_1 : decode b_Mr_isRow 1 = .ok (.iconst 1, 1) := dk_0 a_Mr_isRow_1 (dko_4 _)
theorem d_Mr_isRow_2 : decode b_Mr_isRow 2 = .ok (.if_icmp .lt 15, 3) := dk_S2 a_Mr_isRow_2 (dko_161 _) (by decide +kernel)
theorem d_Mr_isRow_5 : decode b_Mr_isRow 5 = .ok (.iload_n 1, 1) := dk_0 a_Mr_isRow_5 (dko_27 _)
theorem d_Mr_isRow_6 : decode b_Mr_isRow 6 = .ok (.aload_n 0, 1) := dk_0 a_Mr_isRow_6 (dko_42 _)
theorem d_Mr_isRow_7 : decode b_Mr_isRow 7 = .ok (.getfield 133, 3) := dk_U2 a_Mr_isRow_7 (dko_180 _) rfl
theorem d_Mr_isRow_10 : decode b_Mr_isRow 10 = .ok (.if_icmp .gt 7, 3) := dk_S2 a_Mr_isRow_10 (dko_163 _) (by decide +kernel)
theorem d_Mr_isRow_13 : decode b_Mr_isRow 13 = .ok (.iconst 1, 1) := dk_0 a_Mr_isRow_13 (dko_4 _)
theorem d_Mr_isRow_14 : decode b_Mr_isRow 14 = .ok (.goto 4, 3) := dk_S2 a_Mr_isRow_14 (dko_167 _) (by decide +kernel)
theorem d_Mr_isRow_17 : decode b_Mr_isRow 17 = .ok (.iconst 0, 1) := dk_0 a_Mr_isRow_17 (dko_3 _)
theorem d_Mr_isRow_18 : decode b_Mr_isRow 18 = .ok (.ireturn, 1) := dk_0 a_Mr_isRow_18 (dko_172 _)
set_option maxHeartbeats 4000000 in
set_option maxRecDepth 100000 in
theorem ok_Mr_isRow (pc : Nat) : OpS mt mi_Mr_isRow pc (cs_Mr_isRow pc) := (os_n (os_n (os_n (os_l (so_iload_n d_Mr_isRow_0 rfl)) (os_l (so_iconst d_Mr_isRow_1 (by decide)))) (os_n (os_l (so_iclt d_Mr_isRow_2 (by decide))) (os_n (os_l (so_iload_n d_Mr_isRow_5 rfl)) (os_l (so_aload_n d_Mr_isRow_6 rfl))))) (os_n (os_n (os_l (so_get (C := R_Mr) (T := F_Mr) (N := 25) (j := 20) in_Mr rfl (by decide) mw_1732 d_Mr_isRow_7)) (os_n (os_l (so_icgt d_Mr_isRow_10 (by decide))) (os_l (so_iconst d_Mr_isRow_13 (by decide))))) (os_n (os_l (so_goto d_Mr_isRow_14 (by decide))) (os_n (os_l (so_iconst d_Mr_isRow_17 (by decide))) (os_l (so_zreturn rfl d_Mr_isRow_18))))))
abbrev t_Mr_pass_84 : List UInt8 := 172 :: []
abbrev t_Mr_pass_83 : List UInt8 := 3 :: t_Mr_pass_84
abbrev t_Mr_pass_82 : List UInt8 := 79 :: t_Mr_pass_83
abbrev t_Mr_pass_80 : List UInt8 := 21 :: 4 :: t_Mr_pass_82
abbrev t_Mr_pass_79 : List UInt8 := 100 :: t_Mr_pass_80
abbrev t_Mr_pass_78 : List UInt8 := 4 :: t_Mr_pass_79
abbrev t_Mr_pass_77 : List UInt8 := 27 :: t_Mr_pass_78
abbrev t_Mr_pass_74 : List UInt8 := 180 :: 0 :: 56 :: t_Mr_pass_77
abbrev t_Mr_pass_73 : List UInt8 := 42 :: t_Mr_pass_74
abbrev t_Mr_pass_72 : List UInt8 := 172 :: t_Mr_pass_73
abbrev t_Mr_pass_70 : List UInt8 := 16 :: 252 :: t_Mr_pass_72
abbrev t_Mr_pass_67 : List UInt8 := 158 :: 0 :: 6 :: t_Mr_pass_70
abbrev t_Mr_pass_66 : List UInt8 := 46 :: t_Mr_pass_67
abbrev t_Mr_pass_65 : List UInt8 := 100 :: t_Mr_pass_66
abbrev t_Mr_pass_64 : List UInt8 := 4 :: t_Mr_pass_65
abbrev t_Mr_pass_63 : List UInt8 := 27 :: t_Mr_pass_64
abbrev t_Mr_pass_60 : List UInt8 := 180 :: 0 :: 56 :: t_Mr_pass_63
abbrev t_Mr_pass_59 : List UInt8 := 42 :: t_Mr_pass_60
abbrev t_Mr_pass_58 : List UInt8 := 172 :: t_Mr_pass_59
abbrev t_Mr_pass_56 : List UInt8 := 16 :: 253 :: t_Mr_pass_58
abbrev t_Mr_pass_53 : List UInt8 := 164 :: 0 :: 6 :: t_Mr_pass_56
abbrev t_Mr_pass_50 : List UInt8 := 17 :: 14 :: 16 :: t_Mr_pass_53
abbrev t_Mr_pass_48 : List UInt8 := 21 :: 4 :: t_Mr_pass_50
abbrev t_Mr_pass_45 : List UInt8 := 161 :: 0 :: 11 :: t_Mr_pass_48
abbrev t_Mr_pass_44 : List UInt8 := 4 :: t_Mr_pass_45
abbrev t_Mr_pass_42 : List UInt8 := 21 :: 4 :: t_Mr_pass_44
abbrev t_Mr_pass_41 : List UInt8 := 172 :: t_Mr_pass_42
abbrev t_Mr_pass_39 : List UInt8 := 16 :: 254 :: t_Mr_pass_41
abbrev t_Mr_pass_36 : List UInt8 := 160 :: 0 :: 6 :: t_Mr_pass_39
abbrev t_Mr_pass_35 : List UInt8 := 29 :: t_Mr_pass_36
abbrev t_Mr_pass_34 : List UInt8 := 28 :: t_Mr_pass_35
abbrev t_Mr_pass_31 : List UInt8 := 163 :: 0 :: 8 :: t_Mr_pass_34
abbrev t_Mr_pass_28 : List UInt8 := 17 :: 3 :: 231 :: t_Mr_pass_31
abbrev t_Mr_pass_27 : List UInt8 := 29 :: t_Mr_pass_28
abbrev t_Mr_pass_24 : List UInt8 := 161 :: 0 :: 15 :: t_Mr_pass_27
abbrev t_Mr_pass_23 : List UInt8 := 4 :: t_Mr_pass_24
abbrev t_Mr_pass_22 : List UInt8 := 29 :: t_Mr_pass_23
abbrev t_Mr_pass_19 : List UInt8 := 163 :: 0 :: 20 :: t_Mr_pass_22
abbrev t_Mr_pass_16 : List UInt8 := 17 :: 3 :: 231 :: t_Mr_pass_19
abbrev t_Mr_pass_15 : List UInt8 := 28 :: t_Mr_pass_16
abbrev t_Mr_pass_12 : List UInt8 := 161 :: 0 :: 27 :: t_Mr_pass_15
abbrev t_Mr_pass_11 : List UInt8 := 4 :: t_Mr_pass_12
abbrev t_Mr_pass_10 : List UInt8 := 28 :: t_Mr_pass_11
abbrev t_Mr_pass_9 : List UInt8 := 172 :: t_Mr_pass_10
abbrev t_Mr_pass_8 : List UInt8 := 2 :: t_Mr_pass_9
abbrev t_Mr_pass_5 : List UInt8 := 154 :: 0 :: 5 :: t_Mr_pass_8
abbrev t_Mr_pass_2 : List UInt8 := 182 :: 0 :: 151 :: t_Mr_pass_5
abbrev t_Mr_pass_1 : List UInt8 := 27 :: t_Mr_pass_2
abbrev t_Mr_pass_0 : List UInt8 := 42 :: t_Mr_pass_1
theorem a_Mr_pass_0 : dk_at b_Mr_pass 0 t_Mr_pass_0 := dk_start (by decide +kernel)
theorem a_Mr_pass_1 : dk_at b_Mr_pass 1 t_Mr_pass_1 := dk_go 1 a_Mr_pass_0 rfl
theorem a_Mr_pass_2 : dk_at b_Mr_pass 2 t_Mr_pass_2 := dk_go 1 a_Mr_pass_1 rfl
theorem a_Mr_pass_5 : dk_at b_Mr_pass 5 t_Mr_pass_5 := dk_go 3 a_Mr_pass_2 rfl
theorem a_Mr_pass_8 : dk_at b_Mr_pass 8 t_Mr_pass_8 := dk_go 3 a_Mr_pass_5 rfl
theorem a_Mr_pass_9 : dk_at b_Mr_pass 9 t_Mr_pass_9 := dk_go 1 a_Mr_pass_8 rfl
theorem a_Mr_pass_10 : dk_at b_Mr_pass 10 t_Mr_pass_10 := dk_go 1 a_Mr_pass_9 rfl
theorem a_Mr_pass_11 : dk_at b_Mr_pass 11 t_Mr_pass_11 := dk_go 1 a_Mr_pass_10 rfl
theorem a_Mr_pass_12 : dk_at b_Mr_pass 12 t_Mr_pass_12 := dk_go 1 a_Mr_pass_11 rfl
theorem a_Mr_pass_15 : dk_at b_Mr_pass 15 t_Mr_pass_15 := dk_go 3 a_Mr_pass_12 rfl
theorem a_Mr_pass_16 : dk_at b_Mr_pass 16 t_Mr_pass_16 := dk_go 1 a_Mr_pass_15 rfl
theorem a_Mr_pass_19 : dk_at b_Mr_pass 19 t_Mr_pass_19 := dk_go 3 a_Mr_pass_16 rfl
theorem a_Mr_pass_22 : dk_at b_Mr_pass 22 t_Mr_pass_22 := dk_go 3 a_Mr_pass_19 rfl
theorem a_Mr_pass_23 : dk_at b_Mr_pass 23 t_Mr_pass_23 := dk_go 1 a_Mr_pass_22 rfl
theorem a_Mr_pass_24 : dk_at b_Mr_pass 24 t_Mr_pass_24 := dk_go 1 a_Mr_pass_23 rfl
theorem a_Mr_pass_27 : dk_at b_Mr_pass 27 t_Mr_pass_27 := dk_go 3 a_Mr_pass_24 rfl
theorem a_Mr_pass_28 : dk_at b_Mr_pass 28 t_Mr_pass_28 := dk_go 1 a_Mr_pass_27 rfl
theorem a_Mr_pass_31 : dk_at b_Mr_pass 31 t_Mr_pass_31 := dk_go 3 a_Mr_pass_28 rfl
theorem a_Mr_pass_34 : dk_at b_Mr_pass 34 t_Mr_pass_34 := dk_go 3 a_Mr_pass_31 rfl
theorem a_Mr_pass_35 : dk_at b_Mr_pass 35 t_Mr_pass_35 := dk_go 1 a_Mr_pass_34 rfl
theorem a_Mr_pass_36 : dk_at b_Mr_pass 36 t_Mr_pass_36 := dk_go 1 a_Mr_pass_35 rfl
theorem a_Mr_pass_39 : dk_at b_Mr_pass 39 t_Mr_pass_39 := dk_go 3 a_Mr_pass_36 rfl
theorem a_Mr_pass_41 : dk_at b_Mr_pass 41 t_Mr_pass_41 := dk_go 2 a_Mr_pass_39 rfl
theorem a_Mr_pass_42 : dk_at b_Mr_pass 42 t_Mr_pass_42 := dk_go 1 a_Mr_pass_41 rfl
theorem a_Mr_pass_44 : dk_at b_Mr_pass 44 t_Mr_pass_44 := dk_go 2 a_Mr_pass_42 rfl
theorem a_Mr_pass_45 : dk_at b_Mr_pass 45 t_Mr_pass_45 := dk_go 1 a_Mr_pass_44 rfl
theorem a_Mr_pass_48 : dk_at b_Mr_pass 48 t_Mr_pass_48 := dk_go 3 a_Mr_pass_45 rfl
theorem a_Mr_pass_50 : dk_at b_Mr_pass 50 t_Mr_pass_50 := dk_go 2 a_Mr_pass_48 rfl
theorem a_Mr_pass_53 : dk_at b_Mr_pass 53 t_Mr_pass_53 := dk_go 3 a_Mr_pass_50 rfl
theorem a_Mr_pass_56 : dk_at b_Mr_pass 56 t_Mr_pass_56 := dk_go 3 a_Mr_pass_53 rfl
theorem a_Mr_pass_58 : dk_at b_Mr_pass 58 t_Mr_pass_58 := dk_go 2 a_Mr_pass_56 rfl
theorem a_Mr_pass_59 : dk_at b_Mr_pass 59 t_Mr_pass_59 := dk_go 1 a_Mr_pass_58 rfl
theorem a_Mr_pass_60 : dk_at b_Mr_pass 60 t_Mr_pass_60 := dk_go 1 a_Mr_pass_59 rfl
theorem a_Mr_pass_63 : dk_at b_Mr_pass 63 t_Mr_pass_63 := dk_go 3 a_Mr_pass_60 rfl
theorem a_Mr_pass_64 : dk_at b_Mr_pass 64 t_Mr_pass_64 := dk_go 1 a_Mr_pass_63 rfl
theorem a_Mr_pass_65 : dk_at b_Mr_pass 65 t_Mr_pass_65 := dk_go 1 a_Mr_pass_64 rfl
theorem a_Mr_pass_66 : dk_at b_Mr_pass 66 t_Mr_pass_66 := dk_go 1 a_Mr_pass_65 rfl
theorem a_Mr_pass_67 : dk_at b_Mr_pass 67 t_Mr_pass_67 := dk_go 1 a_Mr_pass_66 rfl
theorem a_Mr_pass_70 : dk_at b_Mr_pass 70 t_Mr_pass_70 := dk_go 3 a_Mr_pass_67 rfl
theorem a_Mr_pass_72 : dk_at b_Mr_pass 72 t_Mr_pass_72 := dk_go 2 a_Mr_pass_70 rfl
theorem a_Mr_pass_73 : dk_at b_Mr_pass 73 t_Mr_pass_73 := dk_go 1 a_Mr_pass_72 rfl
theorem a_Mr_pass_74 : dk_at b_Mr_pass 74 t_Mr_pass_74 := dk_go 1 a_Mr_pass_73 rfl
theorem a_Mr_pass_77 : dk_at b_Mr_pass 77 t_Mr_pass_77 := dk_go 3 a_Mr_pass_74 rfl
theorem a_Mr_pass_78 : dk_at b_Mr_pass 78 t_Mr_pass_78 := dk_go 1 a_Mr_pass_77 rfl
theorem a_Mr_pass_79 : dk_at b_Mr_pass 79 t_Mr_pass_79 := dk_go 1 a_Mr_pass_78 rfl
theorem a_Mr_pass_80 : dk_at b_Mr_pass 80 t_Mr_pass_80 := dk_go 1 a_Mr_pass_79 rfl
theorem a_Mr_pass_82 : dk_at b_Mr_pass 82 t_Mr_pass_82 := dk_go 2 a_Mr_pass_80 rfl
theorem a_Mr_pass_83 : dk_at b_Mr_pass 83 t_Mr_pass_83 := dk_go 1 a_Mr_pass_82 rfl
theorem a_Mr_pass_84 : dk_at b_Mr_pass 84 t_Mr_pass_84 := dk_go 1 a_Mr_pass_83 rfl
theorem d_Mr_pass_0 : decode b_Mr_pass 0 = .ok (.aload_n 0, 1) := dk_0 a_Mr_pass_0 (dko_42 _)
theorem d_Mr_pass_1 : decode b_Mr_pass 1 = .ok (.iload_n 1, 1) := dk_0 a_Mr_pass_1 (dko_27 _)
theorem d_Mr_pass_2 : decode b_Mr_pass 2 = .ok (.invokevirtual 151, 3) := dk_U2 a_Mr_pass_2 (dko_182 _) rfl
theorem d_Mr_pass_5 : decode b_Mr_pass 5 = .ok (.ifCond .ne 5, 3) := dk_S2 a_Mr_pass_5 (dko_154 _) (by decide +kernel)
theorem d_Mr_pass_8 : decode b_Mr_pass 8 = .ok (.iconst (-1), 1) := dk_0 a_Mr_pass_8 (dko_2 _)
theorem d_Mr_pass_9 : decode b_Mr_pass 9 = .ok (.ireturn, 1) := dk_0 a_Mr_pass_9 (dko_172 _)
theorem d_Mr_pass_10 : decode b_Mr_pass 10 = .ok (.iload_n 2, 1) := dk_0 a_Mr_pass_10 (dko_28 _)
theorem d_Mr_pass_11 : decode b_Mr_pass 11 = .ok (.iconst 1, 1) := dk_0 a_Mr_pass_11 (dko_4 _)
theorem d_Mr_pass_12 : decode b_Mr_pass 12 = .ok (.if_icmp .lt 27, 3) := dk_S2 a_Mr_pass_12 (dko_161 _) (by decide +kernel)
theorem d_Mr_pass_15 : decode b_Mr_pass 15 = .ok (.iload_n 2, 1) := dk_0 a_Mr_pass_15 (dko_28 _)
theorem d_Mr_pass_16 : decode b_Mr_pass 16 = .ok (.sipush 999, 3) := dk_S2 a_Mr_pass_16 (dko_17 _) (by decide +kernel)
theorem d_Mr_pass_19 : decode b_Mr_pass 19 = .ok (.if_icmp .gt 20, 3) := dk_S2 a_Mr_pass_19 (dko_163 _) (by decide +kernel)
theorem d_Mr_pass_22 : decode b_Mr_pass 22 = .ok (.iload_n 3, 1) := dk_0 a_Mr_pass_22 (dko_29 _)
theorem d_Mr_pass_23 : decode b_Mr_pass 23 = .ok (.iconst 1, 1) := dk_0 a_Mr_pass_23 (dko_4 _)
theorem d_Mr_pass_24 : decode b_Mr_pass 24 = .ok (.if_icmp .lt 15, 3) := dk_S2 a_Mr_pass_24 (dko_161 _) (by decide +kernel)
theorem d_Mr_pass_27 : decode b_Mr_pass 27 = .ok (.iload_n 3, 1) := dk_0 a_Mr_pass_27 (dko_29 _)
theorem d_Mr_pass_28 : decode b_Mr_pass 28 = .ok (.sipush 999, 3) := dk_S2 a_Mr_pass_28 (dko_17 _) (by decide +kernel)
theorem d_Mr_pass_31 : decode b_Mr_pass 31 = .ok (.if_icmp .gt 8, 3) := dk_S2 a_Mr_pass_31 (dko_163 _) (by decide +kernel)
theorem d_Mr_pass_34 : decode b_Mr_pass 34 = .ok (.iload_n 2, 1) := dk_0 a_Mr_pass_34 (dko_28 _)
theorem d_Mr_pass_35 : decode b_Mr_pass 35 = .ok (.iload_n 3, 1) := dk_0 a_Mr_pass_35 (dko_29 _)
theorem d_Mr_pass_36 : decode b_Mr_pass 36 = .ok (.if_icmp .ne 6, 3) := dk_S2 a_Mr_pass_36 (dko_160 _) (by decide +kernel)
theorem d_Mr_pass_39 : decode b_Mr_pass 39 = .ok (.bipush (-2), 2) := dk_S1 a_Mr_pass_39 (dko_16 _) (by decide +kernel)
theorem d_Mr_pass_41 : decode b_Mr_pass 41 = .ok (.ireturn, 1) := dk_0 a_Mr_pass_41 (dko_172 _)
theorem d_Mr_pass_42 : decode b_Mr_pass 42 = .ok (.iload 4, 2) := dk_U1 a_Mr_pass_42 (dko_21 _) rfl
theorem d_Mr_pass_44 : decode b_Mr_pass 44 = .ok (.iconst 1, 1) := dk_0 a_Mr_pass_44 (dko_4 _)
theorem d_Mr_pass_45 : decode b_Mr_pass 45 = .ok (.if_icmp .lt 11, 3) := dk_S2 a_Mr_pass_45 (dko_161 _) (by decide +kernel)
theorem d_Mr_pass_48 : decode b_Mr_pass 48 = .ok (.iload 4, 2) := dk_U1 a_Mr_pass_48 (dko_21 _) rfl
theorem d_Mr_pass_50 : decode b_Mr_pass 50 = .ok (.sipush 3600, 3) := dk_S2 a_Mr_pass_50 (dko_17 _) (by decide +kernel)
theorem d_Mr_pass_53 : decode b_Mr_pass 53 = .ok (.if_icmp .le 6, 3) := dk_S2 a_Mr_pass_53 (dko_164 _) (by decide +kernel)
theorem d_Mr_pass_56 : decode b_Mr_pass 56 = .ok (.bipush (-3), 2) := dk_S1 a_Mr_pass_56 (dko_16 _) (by decide +kernel)
theorem d_Mr_pass_58 : decode b_Mr_pass 58 = .ok (.ireturn, 1) := dk_0 a_Mr_pass_58 (dko_172 _)
theorem d_Mr_pass_59 : decode b_Mr_pass 59 = .ok (.aload_n 0, 1) := dk_0 a_Mr_pass_59 (dko_42 _)
theorem d_Mr_pass_60 : decode b_Mr_pass 60 = .ok (.getfield 56, 3) := dk_U2 a_Mr_pass_60 (dko_180 _) rfl
theorem d_Mr_pass_63 : decode b_Mr_pass 63 = .ok (.iload_n 1, 1) := dk_0 a_Mr_pass_63 (dko_27 _)
theorem d_Mr_pass_64 : decode b_Mr_pass 64 = .ok (.iconst 1, 1) := dk_0 a_Mr_pass_64 (dko_4 _)
theorem d_Mr_pass_65 : decode b_Mr_pass 65 = .ok (.isub, 1) := dk_0 a_Mr_pass_65 (dko_100 _)
theorem d_Mr_pass_66 : decode b_Mr_pass 66 = .ok (.iaload, 1) := dk_0 a_Mr_pass_66 (dko_46 _)
theorem d_Mr_pass_67 : decode b_Mr_pass 67 = .ok (.ifCond .le 6, 3) := dk_S2 a_Mr_pass_67 (dko_158 _) (by decide +kernel)
theorem d_Mr_pass_70 : decode b_Mr_pass 70 = .ok (.bipush (-4), 2) := dk_S1 a_Mr_pass_70 (dko_16 _) (by decide +kernel)
theorem d_Mr_pass_72 : decode b_Mr_pass 72 = .ok (.ireturn, 1) := dk_0 a_Mr_pass_72 (dko_172 _)
theorem d_Mr_pass_73 : decode b_Mr_pass 73 = .ok (.aload_n 0, 1) := dk_0 a_Mr_pass_73 (dko_42 _)
theorem d_Mr_pass_74 : decode b_Mr_pass 74 = .ok (.getfield 56, 3) := dk_U2 a_Mr_pass_74 (dko_180 _) rfl
theorem d_Mr_pass_77 : decode b_Mr_pass 77 = .ok (.iload_n 1, 1) := dk_0 a_Mr_pass_77 (dko_27 _)
theorem d_Mr_pass_78 : decode b_Mr_pass 78 = .ok (.iconst 1, 1) := dk_0 a_Mr_pass_78 (dko_4 _)
theorem d_Mr_pass_79 : decode b_Mr_pass 79 = .ok (.isub, 1) := dk_0 a_Mr_pass_79 (dko_100 _)
theorem d_Mr_pass_80 : decode b_Mr_pass 80 = .ok (.iload 4, 2) := dk_U1 a_Mr_pass_80 (dko_21 _) rfl
theorem d_Mr_pass_82 : decode b_Mr_pass 82 = .ok (.iastore, 1) := dk_0 a_Mr_pass_82 (dko_79 _)
theorem d_Mr_pass_83 : decode b_Mr_pass 83 = .ok (.iconst 0, 1) := dk_0 a_Mr_pass_83 (dko_3 _)
theorem d_Mr_pass_84 : decode b_Mr_pass 84 = .ok (.ireturn, 1) := dk_0 a_Mr_pass_84 (dko_172 _)
set_option maxHeartbeats 4000000 in
set_option maxRecDepth 100000 in
theorem ok_Mr_pass (pc : Nat) : OpS mt mi_Mr_pass pc (cs_Mr_pass pc) := (os_n (os_n (os_n (os_n (os_n (os_l (so_aload_n d_Mr_pass_0 rfl)) (os_n (os_l (so_iload_n d_Mr_pass_1 rfl)) (os_l (so_callV (iv := mi_Mr_isRow) rfl rfl rfl mw_2553 mw_2555 sl_174 mw_20 mw_2556 ⟨by decide +kernel, by decide +kernel, by decide +kernel⟩ (by decide) d_Mr_pass_2)))) (os_n (os_l (so_ifne d_Mr_pass_5 (by decide))) (os_n (os_l (so_iconst d_Mr_pass_8 (by decide))) (os_l (so_ireturn rfl d_Mr_pass_9))))) (os_n (os_n (os_l (so_iload_n d_Mr_pass_10 rfl)) (os_n (os_l (so_iconst d_Mr_pass_11 (by decide))) (os_l (so_iclt d_Mr_pass_12 (by decide))))) (os_n (os_l (so_iload_n d_Mr_pass_15 rfl)) (os_n (os_l (so_sipush d_Mr_pass_16 (by decide))) (os_l (so_icgt d_Mr_pass_19 (by decide))))))) (os_n (os_n (os_n (os_l (so_iload_n d_Mr_pass_22 rfl)) (os_n (os_l (so_iconst d_Mr_pass_23 (by decide))) (os_l (so_iclt d_Mr_pass_24 (by decide))))) (os_n (os_l (so_iload_n d_Mr_pass_27 rfl)) (os_n (os_l (so_sipush d_Mr_pass_28 (by decide))) (os_l (so_icgt d_Mr_pass_31 (by decide)))))) (os_n (os_n (os_l (so_iload_n d_Mr_pass_34 rfl)) (os_n (os_l (so_iload_n d_Mr_pass_35 rfl)) (os_l (so_icne d_Mr_pass_36 (by decide))))) (os_n (os_l (so_bipush d_Mr_pass_39 (by decide))) (os_n (os_l (so_ireturn rfl d_Mr_pass_41)) (os_l (so_iload d_Mr_pass_42))))))) (os_n (os_n (os_n (os_n (os_l (so_iconst d_Mr_pass_44 (by decide))) (os_n (os_l (so_iclt d_Mr_pass_45 (by decide))) (os_l (so_iload d_Mr_pass_48)))) (os_n (os_l (so_sipush d_Mr_pass_50 (by decide))) (os_n (os_l (so_icle d_Mr_pass_53 (by decide))) (os_l (so_bipush d_Mr_pass_56 (by decide)))))) (os_n (os_n (os_l (so_ireturn rfl d_Mr_pass_58)) (os_n (os_l (so_aload_n d_Mr_pass_59 rfl)) (os_l (so_get (C := R_Mr) (T := F_Mr) (N := 25) (j := 23) in_Mr rfl (by decide) mw_1738 d_Mr_pass_60)))) (os_n (os_l (so_iload_n d_Mr_pass_63 rfl)) (os_n (os_l (so_iconst d_Mr_pass_64 (by decide))) (os_l (so_isub d_Mr_pass_65)))))) (os_n (os_n (os_n (os_l (so_iaload d_Mr_pass_66)) (os_n (os_l (so_ifle d_Mr_pass_67 (by decide))) (os_l (so_bipush d_Mr_pass_70 (by decide))))) (os_n (os_l (so_ireturn rfl d_Mr_pass_72)) (os_n (os_l (so_aload_n d_Mr_pass_73 rfl)) (os_l (so_get (C := R_Mr) (T := F_Mr) (N := 25) (j := 23) in_Mr rfl (by decide) mw_1738 d_Mr_pass_74))))) (os_n (os_n (os_l (so_iload_n d_Mr_pass_77 rfl)) (os_n (os_l (so_iconst d_Mr_pass_78 (by decide))) (os_l (so_isub d_Mr_pass_79)))) (os_n (os_n (os_l (so_iload d_Mr_pass_80)) (os_l (so_iastore d_Mr_pass_82))) (os_n (os_l (so_iconst d_Mr_pass_83 (by decide))) (os_l (so_ireturn rfl d_Mr_pass_84))))))))
abbrev t_Mr_reset_41 : List UInt8 := 172 :: []
abbrev t_Mr_reset_40 : List UInt8 := 4 :: t_Mr_reset_41
abbrev t_Mr_reset_39 : List UInt8 := 84 :: t_Mr_reset_40
abbrev t_Mr_reset_38 : List UInt8 := 3 :: t_Mr_reset_39
abbrev t_Mr_reset_37 : List UInt8 := 100 :: t_Mr_reset_38
abbrev t_Mr_reset_36 : List UInt8 := 4 :: t_Mr_reset_37
abbrev t_Mr_reset_35 : List UInt8 := 27 :: t_Mr_reset_36
abbrev t_Mr_reset_32 : List UInt8 := 180 :: 0 :: 53 :: t_Mr_reset_35
abbrev t_Mr_reset_31 : List UInt8 := 42 :: t_Mr_reset_32
abbrev t_Mr_reset_30 : List UInt8 := 172 :: t_Mr_reset_31
abbrev t_Mr_reset_29 : List UInt8 := 3 :: t_Mr_reset_30
abbrev t_Mr_reset_26 : List UInt8 := 153 :: 0 :: 5 :: t_Mr_reset_29
abbrev t_Mr_reset_23 : List UInt8 := 182 :: 0 :: 143 :: t_Mr_reset_26
abbrev t_Mr_reset_22 : List UInt8 := 100 :: t_Mr_reset_23
abbrev t_Mr_reset_21 : List UInt8 := 4 :: t_Mr_reset_22
abbrev t_Mr_reset_20 : List UInt8 := 27 :: t_Mr_reset_21
abbrev t_Mr_reset_19 : List UInt8 := 42 :: t_Mr_reset_20
abbrev t_Mr_reset_16 : List UInt8 := 153 :: 0 :: 13 :: t_Mr_reset_19
abbrev t_Mr_reset_15 : List UInt8 := 51 :: t_Mr_reset_16
abbrev t_Mr_reset_14 : List UInt8 := 100 :: t_Mr_reset_15
abbrev t_Mr_reset_13 : List UInt8 := 4 :: t_Mr_reset_14
abbrev t_Mr_reset_12 : List UInt8 := 27 :: t_Mr_reset_13
abbrev t_Mr_reset_9 : List UInt8 := 180 :: 0 :: 53 :: t_Mr_reset_12
abbrev t_Mr_reset_8 : List UInt8 := 42 :: t_Mr_reset_9
abbrev t_Mr_reset_5 : List UInt8 := 153 :: 0 :: 24 :: t_Mr_reset_8
abbrev t_Mr_reset_2 : List UInt8 := 182 :: 0 :: 151 :: t_Mr_reset_5
abbrev t_Mr_reset_1 : List UInt8 := 27 :: t_Mr_reset_2
abbrev t_Mr_reset_0 : List UInt8 := 42 :: t_Mr_reset_1
theorem a_Mr_reset_0 : dk_at b_Mr_reset 0 t_Mr_reset_0 := dk_start (by decide +kernel)
theorem a_Mr_reset_1 : dk_at b_Mr_reset 1 t_Mr_reset_1 := dk_go 1 a_Mr_reset_0 rfl
theorem a_Mr_reset_2 : dk_at b_Mr_reset 2 t_Mr_reset_2 := dk_go 1 a_Mr_reset_1 rfl
theorem a_Mr_reset_5 : dk_at b_Mr_reset 5 t_Mr_reset_5 := dk_go 3 a_Mr_reset_2 rfl
theorem a_Mr_reset_8 : dk_at b_Mr_reset 8 t_Mr_reset_8 := dk_go 3 a_Mr_reset_5 rfl
theorem a_Mr_reset_9 : dk_at b_Mr_reset 9 t_Mr_reset_9 := dk_go 1 a_Mr_reset_8 rfl
theorem a_Mr_reset_12 : dk_at b_Mr_reset 12 t_Mr_reset_12 := dk_go 3 a_Mr_reset_9 rfl
theorem a_Mr_reset_13 : dk_at b_Mr_reset 13 t_Mr_reset_13 := dk_go 1 a_Mr_reset_12 rfl
theorem a_Mr_reset_14 : dk_at b_Mr_reset 14 t_Mr_reset_14 := dk_go 1 a_Mr_reset_13 rfl
theorem a_Mr_reset_15 : dk_at b_Mr_reset 15 t_Mr_reset_15 := dk_go 1 a_Mr_reset_14 rfl
theorem a_Mr_reset_16 : dk_at b_Mr_reset 16 t_Mr_reset_16 := dk_go 1 a_Mr_reset_15 rfl
theorem a_Mr_reset_19 : dk_at b_Mr_reset 19 t_Mr_reset_19 := dk_go 3 a_Mr_reset_16 rfl
theorem a_Mr_reset_20 : dk_at b_Mr_reset 20 t_Mr_reset_20 := dk_go 1 a_Mr_reset_19 rfl
theorem a_Mr_reset_21 : dk_at b_Mr_reset 21 t_Mr_reset_21 := dk_go 1 a_Mr_reset_20 rfl
theorem a_Mr_reset_22 : dk_at b_Mr_reset 22 t_Mr_reset_22 := dk_go 1 a_Mr_reset_21 rfl
theorem a_Mr_reset_23 : dk_at b_Mr_reset 23 t_Mr_reset_23 := dk_go 1 a_Mr_reset_22 rfl
theorem a_Mr_reset_26 : dk_at b_Mr_reset 26 t_Mr_reset_26 := dk_go 3 a_Mr_reset_23 rfl
theorem a_Mr_reset_29 : dk_at b_Mr_reset 29 t_Mr_reset_29 := dk_go 3 a_Mr_reset_26 rfl
theorem a_Mr_reset_30 : dk_at b_Mr_reset 30 t_Mr_reset_30 := dk_go 1 a_Mr_reset_29 rfl
theorem a_Mr_reset_31 : dk_at b_Mr_reset 31 t_Mr_reset_31 := dk_go 1 a_Mr_reset_30 rfl
theorem a_Mr_reset_32 : dk_at b_Mr_reset 32 t_Mr_reset_32 := dk_go 1 a_Mr_reset_31 rfl
theorem a_Mr_reset_35 : dk_at b_Mr_reset 35 t_Mr_reset_35 := dk_go 3 a_Mr_reset_32 rfl
theorem a_Mr_reset_36 : dk_at b_Mr_reset 36 t_Mr_reset_36 := dk_go 1 a_Mr_reset_35 rfl
theorem a_Mr_reset_37 : dk_at b_Mr_reset 37 t_Mr_reset_37 := dk_go 1 a_Mr_reset_36 rfl
theorem a_Mr_reset_38 : dk_at b_Mr_reset 38 t_Mr_reset_38 := dk_go 1 a_Mr_reset_37 rfl
theorem a_Mr_reset_39 : dk_at b_Mr_reset 39 t_Mr_reset_39 := dk_go 1 a_Mr_reset_38 rfl
theorem a_Mr_reset_40 : dk_at b_Mr_reset 40 t_Mr_reset_40 := dk_go 1 a_Mr_reset_39 rfl
theorem a_Mr_reset_41 : dk_at b_Mr_reset 41 t_Mr_reset_41 := dk_go 1 a_Mr_reset_40 rfl
theorem d_Mr_reset_0 : decode b_Mr_reset 0 = .ok (.aload_n 0, 1) := dk_0 a_Mr_reset_0 (dko_42 _)
theorem d_Mr_reset_1 : decode b_Mr_reset 1 = .ok (.iload_n 1, 1) := dk_0 a_Mr_reset_1 (dko_27 _)
theorem d_Mr_reset_2 : decode b_Mr_reset 2 = .ok (.invokevirtual 151, 3) := dk_U2 a_Mr_reset_2 (dko_182 _) rfl
theorem d_Mr_reset_5 : decode b_Mr_reset 5 = .ok (.ifCond .eq 24, 3) := dk_S2 a_Mr_reset_5 (dko_153 _) (by decide +kernel)
theorem d_Mr_reset_8 : decode b_Mr_reset 8 = .ok (.aload_n 0, 1) := dk_0 a_Mr_reset_8 (dko_42 _)
theorem d_Mr_reset_9 : decode b_Mr_reset 9 = .ok (.getfield 53, 3) := dk_U2 a_Mr_reset_9 (dko_180 _) rfl
theorem d_Mr_reset_12 : decode b_Mr_reset 12 = .ok (.iload_n 1, 1) := dk_0 a_Mr_reset_12 (dko_27 _)
theorem d_Mr_reset_13 : decode b_Mr_reset 13 = .ok (.iconst 1, 1) := dk_0 a_Mr_reset_13 (dko_4 _)
theorem d_Mr_reset_14 : decode b_Mr_reset 14 = .ok (.isub, 1) := dk_0 a_Mr_reset_14 (dko_100 _)
theorem d_Mr_reset_15 : decode b_Mr_reset 15 = .ok (.baload, 1) := dk_0 a_Mr_reset_15 (dko_51 _)
theorem d_Mr_reset_16 : decode b_Mr_reset 16 = .ok (.ifCond .eq 13, 3) := dk_S2 a_Mr_reset_16 (dko_153 _) (by decide +kernel)
theorem d_Mr_reset_19 : decode b_Mr_reset 19 = .ok (.aload_n 0, 1) := dk_0 a_Mr_reset_19 (dko_42 _)
theorem d_Mr_reset_20 : decode b_Mr_reset 20 = .ok (.iload_n 1, 1) := dk_0 a_Mr_reset_20 (dko_27 _)
theorem d_Mr_reset_21 : decode b_Mr_reset 21 = .ok (.iconst 1, 1) := dk_0 a_Mr_reset_21 (dko_4 _)
theorem d_Mr_reset_22 : decode b_Mr_reset 22 = .ok (.isub, 1) := dk_0 a_Mr_reset_22 (dko_100 _)
theorem d_Mr_reset_23 : decode b_Mr_reset 23 = .ok (.invokevirtual 143, 3) := dk_U2 a_Mr_reset_23 (dko_182 _) rfl
theorem d_Mr_reset_26 : decode b_Mr_reset 26 = .ok (.ifCond .eq 5, 3) := dk_S2 a_Mr_reset_26 (dko_153 _) (by decide +kernel)
theorem d_Mr_reset_29 : decode b_Mr_reset 29 = .ok (.iconst 0, 1) := dk_0 a_Mr_reset_29 (dko_3 _)
theorem d_Mr_reset_30 : decode b_Mr_reset 30 = .ok (.ireturn, 1) := dk_0 a_Mr_reset_30 (dko_172 _)
theorem d_Mr_reset_31 : decode b_Mr_reset 31 = .ok (.aload_n 0, 1) := dk_0 a_Mr_reset_31 (dko_42 _)
theorem d_Mr_reset_32 : decode b_Mr_reset 32 = .ok (.getfield 53, 3) := dk_U2 a_Mr_reset_32 (dko_180 _) rfl
theorem d_Mr_reset_35 : decode b_Mr_reset 35 = .ok (.iload_n 1, 1) := dk_0 a_Mr_reset_35 (dko_27 _)
theorem d_Mr_reset_36 : decode b_Mr_reset 36 = .ok (.iconst 1, 1) := dk_0 a_Mr_reset_36 (dko_4 _)
theorem d_Mr_reset_37 : decode b_Mr_reset 37 = .ok (.isub, 1) := dk_0 a_Mr_reset_37 (dko_100 _)
theorem d_Mr_reset_38 : decode b_Mr_reset 38 = .ok (.iconst 0, 1) := dk_0 a_Mr_reset_38 (dko_3 _)
theorem d_Mr_reset_39 : decode b_Mr_reset 39 = .ok (.bastore, 1) := dk_0 a_Mr_reset_39 (dko_84 _)
theorem d_Mr_reset_40 : decode b_Mr_reset 40 = .ok (.iconst 1, 1) := dk_0 a_Mr_reset_40 (dko_4 _)
theorem d_Mr_reset_41 : decode b_Mr_reset 41 = .ok (.ireturn, 1) := dk_0 a_Mr_reset_41 (dko_172 _)
set_option maxHeartbeats 4000000 in
set_option maxRecDepth 100000 in
theorem ok_Mr_reset (pc : Nat) : OpS mt mi_Mr_reset pc (cs_Mr_reset pc) := (os_n (os_n (os_n (os_n (os_l (so_aload_n d_Mr_reset_0 rfl)) (os_n (os_l (so_iload_n d_Mr_reset_1 rfl)) (os_l (so_callV (iv := mi_Mr_isRow) rfl rfl rfl mw_2553 mw_2555 sl_174 mw_20 mw_2556 ⟨by decide +kernel, by decide +kernel, by decide +kernel⟩ (by decide) d_Mr_reset_2)))) (os_n (os_n (os_l (so_ifeq d_Mr_reset_5 (by decide))) (os_l (so_aload_n d_Mr_reset_8 rfl))) (os_n (os_l (so_get (C := R_Mr) (T := F_Mr) (N := 25) (j := 22) in_Mr rfl (by decide) mw_1736 d_Mr_reset_9)) (os_l (so_iload_n d_Mr_reset_12 rfl))))) (os_n (os_n (os_l (so_iconst d_Mr_reset_13 (by decide))) (os_n (os_l (so_isub d_Mr_reset_14)) (os_l (so_baload d_Mr_reset_15)))) (os_n (os_n (os_l (so_ifeq d_Mr_reset_16 (by decide))) (os_l (so_aload_n d_Mr_reset_19 rfl))) (os_n (os_l (so_iload_n d_Mr_reset_20 rfl)) (os_l (so_iconst d_Mr_reset_21 (by decide))))))) (os_n (os_n (os_n (os_l (so_isub d_Mr_reset_22)) (os_n (os_l (so_callV (iv := mi_Mr_isOn) rfl rfl rfl mw_2482 mw_2484 sl_163 mw_20 mw_2485 ⟨by decide +kernel, by decide +kernel, by decide +kernel⟩ (by decide) d_Mr_reset_23)) (os_l (so_ifeq d_Mr_reset_26 (by decide))))) (os_n (os_n (os_l (so_iconst d_Mr_reset_29 (by decide))) (os_l (so_zreturn rfl d_Mr_reset_30))) (os_n (os_l (so_aload_n d_Mr_reset_31 rfl)) (os_l (so_get (C := R_Mr) (T := F_Mr) (N := 25) (j := 22) in_Mr rfl (by decide) mw_1736 d_Mr_reset_32))))) (os_n (os_n (os_l (so_iload_n d_Mr_reset_35 rfl)) (os_n (os_l (so_iconst d_Mr_reset_36 (by decide))) (os_l (so_isub d_Mr_reset_37)))) (os_n (os_n (os_l (so_iconst d_Mr_reset_38 (by decide))) (os_l (so_bastore d_Mr_reset_39))) (os_n (os_l (so_iconst d_Mr_reset_40 (by decide))) (os_l (so_zreturn rfl d_Mr_reset_41)))))))
abbrev t_Tx_unit_45 : List UInt8 := 172 :: []
abbrev t_Tx_unit_44 : List UInt8 := 4 :: t_Tx_unit_45
abbrev t_Tx_unit_41 : List UInt8 := 181 :: 0 :: 65 :: t_Tx_unit_44
abbrev t_Tx_unit_40 : List UInt8 := 96 :: t_Tx_unit_41
abbrev t_Tx_unit_39 : List UInt8 := 4 :: t_Tx_unit_40
abbrev t_Tx_unit_36 : List UInt8 := 180 :: 0 :: 65 :: t_Tx_unit_39
abbrev t_Tx_unit_35 : List UInt8 := 89 :: t_Tx_unit_36
abbrev t_Tx_unit_34 : List UInt8 := 42 :: t_Tx_unit_35
abbrev t_Tx_unit_33 : List UInt8 := 84 :: t_Tx_unit_34
abbrev t_Tx_unit_32 : List UInt8 := 145 :: t_Tx_unit_33
abbrev t_Tx_unit_31 : List UInt8 := 27 :: t_Tx_unit_32
abbrev t_Tx_unit_28 : List UInt8 := 180 :: 0 :: 65 :: t_Tx_unit_31
abbrev t_Tx_unit_27 : List UInt8 := 42 :: t_Tx_unit_28
abbrev t_Tx_unit_24 : List UInt8 := 180 :: 0 :: 11 :: t_Tx_unit_27
abbrev t_Tx_unit_23 : List UInt8 := 42 :: t_Tx_unit_24
abbrev t_Tx_unit_22 : List UInt8 := 172 :: t_Tx_unit_23
abbrev t_Tx_unit_21 : List UInt8 := 3 :: t_Tx_unit_22
abbrev t_Tx_unit_18 : List UInt8 := 160 :: 0 :: 5 :: t_Tx_unit_21
abbrev t_Tx_unit_15 : List UInt8 := 17 :: 15 :: 180 :: t_Tx_unit_18
abbrev t_Tx_unit_12 : List UInt8 := 180 :: 0 :: 65 :: t_Tx_unit_15
abbrev t_Tx_unit_11 : List UInt8 := 42 :: t_Tx_unit_12
abbrev t_Tx_unit_8 : List UInt8 := 163 :: 0 :: 13 :: t_Tx_unit_11
abbrev t_Tx_unit_6 : List UInt8 := 16 :: 127 :: t_Tx_unit_8
abbrev t_Tx_unit_5 : List UInt8 := 27 :: t_Tx_unit_6
abbrev t_Tx_unit_2 : List UInt8 := 161 :: 0 :: 19 :: t_Tx_unit_5
abbrev t_Tx_unit_1 : List UInt8 := 4 :: t_Tx_unit_2
abbrev t_Tx_unit_0 : List UInt8 := 27 :: t_Tx_unit_1
theorem a_Tx_unit_0 : dk_at b_Tx_unit 0 t_Tx_unit_0 := dk_start (by decide +kernel)
theorem a_Tx_unit_1 : dk_at b_Tx_unit 1 t_Tx_unit_1 := dk_go 1 a_Tx_unit_0 rfl
theorem a_Tx_unit_2 : dk_at b_Tx_unit 2 t_Tx_unit_2 := dk_go 1 a_Tx_unit_1 rfl
theorem a_Tx_unit_5 : dk_at b_Tx_unit 5 t_Tx_unit_5 := dk_go 3 a_Tx_unit_2 rfl
theorem a_Tx_unit_6 : dk_at b_Tx_unit 6 t_Tx_unit_6 := dk_go 1 a_Tx_unit_5 rfl
theorem a_Tx_unit_8 : dk_at b_Tx_unit 8 t_Tx_unit_8 := dk_go 2 a_Tx_unit_6 rfl
theorem a_Tx_unit_11 : dk_at b_Tx_unit 11 t_Tx_unit_11 := dk_go 3 a_Tx_unit_8 rfl
theorem a_Tx_unit_12 : dk_at b_Tx_unit 12 t_Tx_unit_12 := dk_go 1 a_Tx_unit_11 rfl
theorem a_Tx_unit_15 : dk_at b_Tx_unit 15 t_Tx_unit_15 := dk_go 3 a_Tx_unit_12 rfl
theorem a_Tx_unit_18 : dk_at b_Tx_unit 18 t_Tx_unit_18 := dk_go 3 a_Tx_unit_15 rfl
theorem a_Tx_unit_21 : dk_at b_Tx_unit 21 t_Tx_unit_21 := dk_go 3 a_Tx_unit_18 rfl
theorem a_Tx_unit_22 : dk_at b_Tx_unit 22 t_Tx_unit_22 := dk_go 1 a_Tx_unit_21 rfl
theorem a_Tx_unit_23 : dk_at b_Tx_unit 23 t_Tx_unit_23 := dk_go 1 a_Tx_unit_22 rfl
theorem a_Tx_unit_24 : dk_at b_Tx_unit 24 t_Tx_unit_24 := dk_go 1 a_Tx_unit_23 rfl
theorem a_Tx_unit_27 : dk_at b_Tx_unit 27 t_Tx_unit_27 := dk_go 3 a_Tx_unit_24 rfl
theorem a_Tx_unit_28 : dk_at b_Tx_unit 28 t_Tx_unit_28 := dk_go 1 a_Tx_unit_27 rfl
theorem a_Tx_unit_31 : dk_at b_Tx_unit 31 t_Tx_unit_31 := dk_go 3 a_Tx_unit_28 rfl
theorem a_Tx_unit_32 : dk_at b_Tx_unit 32 t_Tx_unit_32 := dk_go 1 a_Tx_unit_31 rfl
theorem a_Tx_unit_33 : dk_at b_Tx_unit 33 t_Tx_unit_33 := dk_go 1 a_Tx_unit_32 rfl
theorem a_Tx_unit_34 : dk_at b_Tx_unit 34 t_Tx_unit_34 := dk_go 1 a_Tx_unit_33 rfl
theorem a_Tx_unit_35 : dk_at b_Tx_unit 35 t_Tx_unit_35 := dk_go 1 a_Tx_unit_34 rfl
theorem a_Tx_unit_36 : dk_at b_Tx_unit 36 t_Tx_unit_36 := dk_go 1 a_Tx_unit_35 rfl
theorem a_Tx_unit_39 : dk_at b_Tx_unit 39 t_Tx_unit_39 := dk_go 3 a_Tx_unit_36 rfl
theorem a_Tx_unit_40 : dk_at b_Tx_unit 40 t_Tx_unit_40 := dk_go 1 a_Tx_unit_39 rfl
theorem a_Tx_unit_41 : dk_at b_Tx_unit 41 t_Tx_unit_41 := dk_go 1 a_Tx_unit_40 rfl
theorem a_Tx_unit_44 : dk_at b_Tx_unit 44 t_Tx_unit_44 := dk_go 3 a_Tx_unit_41 rfl
theorem a_Tx_unit_45 : dk_at b_Tx_unit 45 t_Tx_unit_45 := dk_go 1 a_Tx_unit_44 rfl
theorem d_Tx_unit_0 : decode b_Tx_unit 0 = .ok (.iload_n 1, 1) := dk_0 a_Tx_unit_0 (dko_27 _)
theorem d_Tx_unit_1 : decode b_Tx_unit 1 = .ok (.iconst 1, 1) := dk_0 a_Tx_unit_1 (dko_4 _)
theorem d_Tx_unit_2 : decode b_Tx_unit 2 = .ok (.if_icmp .lt 19, 3) := dk_S2 a_Tx_unit_2 (dko_161 _) (by decide +kernel)
theorem d_Tx_unit_5 : decode b_Tx_unit 5 = .ok (.iload_n 1, 1) := dk_0 a_Tx_unit_5 (dko_27 _)
theorem d_Tx_unit_6 : decode b_Tx_unit 6 = .ok (.bipush 127, 2) := dk_S1 a_Tx_unit_6 (dko_16 _) (by decide +kernel)
theorem d_Tx_unit_8 : decode b_Tx_unit 8 = .ok (.if_icmp .gt 13, 3) := dk_S2 a_Tx_unit_8 (dko_163 _) (by decide +kernel)
theorem d_Tx_unit_11 : decode b_Tx_unit 11 = .ok (.aload_n 0, 1) := dk_0 a_Tx_unit_11 (dko_42 _)
theorem d_Tx_unit_12 : decode b_Tx_unit 12 = .ok (.getfield 65, 3) := dk_U2 a_Tx_unit_12 (dko_180 _) rfl
theorem d_Tx_unit_15 : decode b_Tx_unit 15 = .ok (.sipush 4020, 3) := dk_S2 a_Tx_unit_15 (dko_17 _) (by decide +kernel)
theorem d_Tx_unit_18 : decode b_Tx_unit 18 = .ok (.if_icmp .ne 5, 3) := dk_S2 a_Tx_unit_18 (dko_160 _) (by decide +kernel)
theorem d_Tx_unit_21 : decode b_Tx_unit 21 = .ok (.iconst 0, 1) := dk_0 a_Tx_unit_21 (dko_3 _)
theorem d_Tx_unit_22 : decode b_Tx_unit 22 = .ok (.ireturn, 1) := dk_0 a_Tx_unit_22 (dko_172 _)
theorem d_Tx_unit_23 : decode b_Tx_unit 23 = .ok (.aload_n 0, 1) := dk_0 a_Tx_unit_23 (dko_42 _)
theorem d_Tx_unit_24 : decode b_Tx_unit 24 = .ok (.getfield 11, 3) := dk_U2 a_Tx_unit_24 (dko_180 _) rfl
theorem d_Tx_unit_27 : decode b_Tx_unit 27 = .ok (.aload_n 0, 1) := dk_0 a_Tx_unit_27 (dko_42 _)
theorem d_Tx_unit_28 : decode b_Tx_unit 28 = .ok (.getfield 65, 3) := dk_U2 a_Tx_unit_28 (dko_180 _) rfl
theorem d_Tx_unit_31 : decode b_Tx_unit 31 = .ok (.iload_n 1, 1) := dk_0 a_Tx_unit_31 (dko_27 _)
theorem d_Tx_unit_32 : decode b_Tx_unit 32 = .ok (.i2b, 1) := dk_0 a_Tx_unit_32 (dko_145 _)
theorem d_Tx_unit_33 : decode b_Tx_unit 33 = .ok (.bastore, 1) := dk_0 a_Tx_unit_33 (dko_84 _)
theorem d_Tx_unit_34 : decode b_Tx_unit 34 = .ok (.aload_n 0, 1) := dk_0 a_Tx_unit_34 (dko_42 _)
theorem d_Tx_unit_35 : decode b_Tx_unit 35 = .ok (.dup, 1) := dk_0 a_Tx_unit_35 (dko_89 _)
theorem d_Tx_unit_36 : decode b_Tx_unit 36 = .ok (.getfield 65, 3) := dk_U2 a_Tx_unit_36 (dko_180 _) rfl
theorem d_Tx_unit_39 : decode b_Tx_unit 39 = .ok (.iconst 1, 1) := dk_0 a_Tx_unit_39 (dko_4 _)
theorem d_Tx_unit_40 : decode b_Tx_unit 40 = .ok (.iadd, 1) := dk_0 a_Tx_unit_40 (dko_96 _)
theorem d_Tx_unit_41 : decode b_Tx_unit 41 = .ok (.putfield 65, 3) := dk_U2 a_Tx_unit_41 (dko_181 _) rfl
theorem d_Tx_unit_44 : decode b_Tx_unit 44 = .ok (.iconst 1, 1) := dk_0 a_Tx_unit_44 (dko_4 _)
theorem d_Tx_unit_45 : decode b_Tx_unit 45 = .ok (.ireturn, 1) := dk_0 a_Tx_unit_45 (dko_172 _)
set_option maxHeartbeats 4000000 in
set_option maxRecDepth 100000 in
theorem ok_Tx_unit (pc : Nat) : OpS mt mi_Tx_unit pc (cs_Tx_unit pc) := (os_n (os_n (os_n (os_n (os_l (so_iload_n d_Tx_unit_0 rfl)) (os_n (os_l (so_iconst d_Tx_unit_1 (by decide))) (os_l (so_iclt d_Tx_unit_2 (by decide))))) (os_n (os_l (so_iload_n d_Tx_unit_5 rfl)) (os_n (os_l (so_bipush d_Tx_unit_6 (by decide))) (os_l (so_icgt d_Tx_unit_8 (by decide)))))) (os_n (os_n (os_l (so_aload_n d_Tx_unit_11 rfl)) (os_n (os_l (so_get (C := R_Tx) (T := F_Tx) (N := 39) (j := 1) in_Tx rfl (by decide) mw_1580 d_Tx_unit_12)) (os_l (so_sipush d_Tx_unit_15 (by decide))))) (os_n (os_n (os_l (so_icne d_Tx_unit_18 (by decide))) (os_l (so_iconst d_Tx_unit_21 (by decide)))) (os_n (os_l (so_zreturn rfl d_Tx_unit_22)) (os_l (so_aload_n d_Tx_unit_23 rfl)))))) (os_n (os_n (os_n (os_l (so_get (C := R_Tx) (T := F_Tx) (N := 39) (j := 0) in_Tx rfl (by decide) mw_1579 d_Tx_unit_24)) (os_n (os_l (so_aload_n d_Tx_unit_27 rfl)) (os_l (so_get (C := R_Tx) (T := F_Tx) (N := 39) (j := 1) in_Tx rfl (by decide) mw_1580 d_Tx_unit_28)))) (os_n (os_n (os_l (so_iload_n d_Tx_unit_31 rfl)) (os_l (so_i2b d_Tx_unit_32))) (os_n (os_l (so_bastore d_Tx_unit_33)) (os_l (so_aload_n d_Tx_unit_34 rfl))))) (os_n (os_n (os_l (so_dup d_Tx_unit_35)) (os_n (os_l (so_get (C := R_Tx) (T := F_Tx) (N := 39) (j := 1) in_Tx rfl (by decide) mw_1580 d_Tx_unit_36)) (os_l (so_iconst d_Tx_unit_39 (by decide))))) (os_n (os_n (os_l (so_iadd d_Tx_unit_40)) (os_l (so_putI (C := R_Tx) (T := F_Tx) (N := 39) (j := 1) in_Tx t_Tx_ok n_Tx rfl (by decide) mw_1580 rfl (by decide +kernel) d_Tx_unit_41))) (os_n (os_l (so_iconst d_Tx_unit_44 (by decide))) (os_l (so_zreturn rfl d_Tx_unit_45)))))))
abbrev t_Tx_at_18 : List UInt8 := 172 :: []
abbrev t_Tx_at_17 : List UInt8 := 3 :: t_Tx_at_18
abbrev t_Tx_at_14 : List UInt8 := 167 :: 0 :: 4 :: t_Tx_at_17
abbrev t_Tx_at_13 : List UInt8 := 51 :: t_Tx_at_14
abbrev t_Tx_at_12 : List UInt8 := 27 :: t_Tx_at_13
abbrev t_Tx_at_9 : List UInt8 := 180 :: 0 :: 11 :: t_Tx_at_12
abbrev t_Tx_at_8 : List UInt8 := 42 :: t_Tx_at_9
abbrev t_Tx_at_5 : List UInt8 := 162 :: 0 :: 12 :: t_Tx_at_8
abbrev t_Tx_at_2 : List UInt8 := 180 :: 0 :: 65 :: t_Tx_at_5
abbrev t_Tx_at_1 : List UInt8 := 42 :: t_Tx_at_2
abbrev t_Tx_at_0 : List UInt8 := 27 :: t_Tx_at_1
theorem a_Tx_at_0 : dk_at b_Tx_at 0 t_Tx_at_0 := dk_start (by decide +kernel)
theorem a_Tx_at_1 : dk_at b_Tx_at 1 t_Tx_at_1 := dk_go 1 a_Tx_at_0 rfl
theorem a_Tx_at_2 : dk_at b_Tx_at 2 t_Tx_at_2 := dk_go 1 a_Tx_at_1 rfl
theorem a_Tx_at_5 : dk_at b_Tx_at 5 t_Tx_at_5 := dk_go 3 a_Tx_at_2 rfl
theorem a_Tx_at_8 : dk_at b_Tx_at 8 t_Tx_at_8 := dk_go 3 a_Tx_at_5 rfl
theorem a_Tx_at_9 : dk_at b_Tx_at 9 t_Tx_at_9 := dk_go 1 a_Tx_at_8 rfl
theorem a_Tx_at_12 : dk_at b_Tx_at 12 t_Tx_at_12 := dk_go 3 a_Tx_at_9 rfl
theorem a_Tx_at_13 : dk_at b_Tx_at 13 t_Tx_at_13 := dk_go 1 a_Tx_at_12 rfl
theorem a_Tx_at_14 : dk_at b_Tx_at 14 t_Tx_at_14 := dk_go 1 a_Tx_at_13 rfl
theorem a_Tx_at_17 : dk_at b_Tx_at 17 t_Tx_at_17 := dk_go 3 a_Tx_at_14 rfl
theorem a_Tx_at_18 : dk_at b_Tx_at 18 t_Tx_at_18 := dk_go 1 a_Tx_at_17 rfl
theorem d_Tx_at_0 : decode b_Tx_at 0 = .ok (.iload_n 1, 1) := dk_0 a_Tx_at_0 (dko_27 _)
theorem d_Tx_at_1 : decode b_Tx_at 1 = .ok (.aload_n 0, 1) := dk_0 a_Tx_at_1 (dko_42 _)
theorem d_Tx_at_2 : decode b_Tx_at 2 = .ok (.getfield 65, 3) := dk_U2 a_Tx_at_2 (dko_180 _) rfl
theorem d_Tx_at_5 : decode b_Tx_at 5 = .ok (.if_icmp .ge 12, 3) := dk_S2 a_Tx_at_5 (dko_162 _) (by decide +kernel)
theorem d_Tx_at_8 : decode b_Tx_at 8 = .ok (.aload_n 0, 1) := dk_0 a_Tx_at_8 (dko_42 _)
theorem d_Tx_at_9 : decode b_Tx_at 9 = .ok (.getfield 11, 3) := dk_U2 a_Tx_at_9 (dko_180 _) rfl
theorem d_Tx_at_12 : decode b_Tx_at 12 = .ok (.iload_n 1, 1) := dk_0 a_Tx_at_12 (dko_27 _)
theorem d_Tx_at_13 : decode b_Tx_at 13 = .ok (.baload, 1) := dk_0 a_Tx_at_13 (dko_51 _)
theorem d_Tx_at_14 : decode b_Tx_at 14 = .ok (.goto 4, 3) := dk_S2 a_Tx_at_14 (dko_167 _) (by decide +kernel)
theorem d_Tx_at_17 : decode b_Tx_at 17 = .ok (.iconst 0, 1) := dk_0 a_Tx_at_17 (dko_3 _)
theorem d_Tx_at_18 : decode b_Tx_at 18 = .ok (.ireturn, 1) := dk_0 a_Tx_at_18 (dko_172 _)
set_option maxHeartbeats 4000000 in
set_option maxRecDepth 100000 in
theorem ok_Tx_at (pc : Nat) : OpS mt mi_Tx_at pc (cs_Tx_at pc) := (os_n (os_n (os_n (os_l (so_iload_n d_Tx_at_0 rfl)) (os_l (so_aload_n d_Tx_at_1 rfl))) (os_n (os_l (so_get (C := R_Tx) (T := F_Tx) (N := 39) (j := 1) in_Tx rfl (by decide) mw_1580 d_Tx_at_2)) (os_n (os_l (so_icge d_Tx_at_5 (by decide))) (os_l (so_aload_n d_Tx_at_8 rfl))))) (os_n (os_n (os_l (so_get (C := R_Tx) (T := F_Tx) (N := 39) (j := 0) in_Tx rfl (by decide) mw_1579 d_Tx_at_9)) (os_n (os_l (so_iload_n d_Tx_at_12 rfl)) (os_l (so_baload d_Tx_at_13)))) (os_n (os_l (so_goto d_Tx_at_14 (by decide))) (os_n (os_l (so_iconst d_Tx_at_17 (by decide))) (os_l (so_ireturn rfl d_Tx_at_18))))))
abbrev t_Tx_isDigit_17 : List UInt8 := 172 :: []
abbrev t_Tx_isDigit_16 : List UInt8 := 3 :: t_Tx_isDigit_17
abbrev t_Tx_isDigit_13 : List UInt8 := 167 :: 0 :: 4 :: t_Tx_isDigit_16
abbrev t_Tx_isDigit_12 : List UInt8 := 4 :: t_Tx_isDigit_13
abbrev t_Tx_isDigit_9 : List UInt8 := 163 :: 0 :: 7 :: t_Tx_isDigit_12
abbrev t_Tx_isDigit_7 : List UInt8 := 16 :: 57 :: t_Tx_isDigit_9
abbrev t_Tx_isDigit_6 : List UInt8 := 26 :: t_Tx_isDigit_7
abbrev t_Tx_isDigit_3 : List UInt8 := 161 :: 0 :: 13 :: t_Tx_isDigit_6
abbrev t_Tx_isDigit_1 : List UInt8 := 16 :: 48 :: t_Tx_isDigit_3
abbrev t_Tx_isDigit_0 : List UInt8 := 26 :: t_Tx_isDigit_1
theorem a_Tx_isDigit_0 : dk_at b_Tx_isDigit 0 t_Tx_isDigit_0 := dk_start (by decide +kernel)
theorem a_Tx_isDigit_1 : dk_at b_Tx_isDigit 1 t_Tx_isDigit_1 := dk_go 1 a_Tx_isDigit_0 rfl
theorem a_Tx_isDigit_3 : dk_at b_Tx_isDigit 3 t_Tx_isDigit_3 := dk_go 2 a_Tx_isDigit_1 rfl
theorem a_Tx_isDigit_6 : dk_at b_Tx_isDigit 6 t_Tx_isDigit_6 := dk_go 3 a_Tx_isDigit_3 rfl
theorem a_Tx_isDigit_7 : dk_at b_Tx_isDigit 7 t_Tx_isDigit_7 := dk_go 1 a_Tx_isDigit_6 rfl
theorem a_Tx_isDigit_9 : dk_at b_Tx_isDigit 9 t_Tx_isDigit_9 := dk_go 2 a_Tx_isDigit_7 rfl
theorem a_Tx_isDigit_12 : dk_at b_Tx_isDigit 12 t_Tx_isDigit_12 := dk_go 3 a_Tx_isDigit_9 rfl
theorem a_Tx_isDigit_13 : dk_at b_Tx_isDigit 13 t_Tx_isDigit_13 := dk_go 1 a_Tx_isDigit_12 rfl
theorem a_Tx_isDigit_16 : dk_at b_Tx_isDigit 16 t_Tx_isDigit_16 := dk_go 3 a_Tx_isDigit_13 rfl
theorem a_Tx_isDigit_17 : dk_at b_Tx_isDigit 17 t_Tx_isDigit_17 := dk_go 1 a_Tx_isDigit_16 rfl
theorem d_Tx_isDigit_0 : decode b_Tx_isDigit 0 = .ok (.iload_n 0, 1) := dk_0 a_Tx_isDigit_0 (dko_26 _)
theorem d_Tx_isDigit_1 : decode b_Tx_isDigit 1 = .ok (.bipush 48, 2) := dk_S1 a_Tx_isDigit_1 (dko_16 _) (by decide +kernel)
theorem d_Tx_isDigit_3 : decode b_Tx_isDigit 3 = .ok (.if_icmp .lt 13, 3) := dk_S2 a_Tx_isDigit_3 (dko_161 _) (by decide +kernel)
theorem d_Tx_isDigit_6 : decode b_Tx_isDigit 6 = .ok (.iload_n 0, 1) := dk_0 a_Tx_isDigit_6 (dko_26 _)
theorem d_Tx_isDigit_7 : decode b_Tx_isDigit 7 = .ok (.bipush 57, 2) := dk_S1 a_Tx_isDigit_7 (dko_16 _) (by decide +kernel)
theorem d_Tx_isDigit_9 : decode b_Tx_isDigit 9 = .ok (.if_icmp .gt 7, 3) := dk_S2 a_Tx_isDigit_9 (dko_163 _) (by decide +kernel)
theorem d_Tx_isDigit_12 : decode b_Tx_isDigit 12 = .ok (.iconst 1, 1) := dk_0 a_Tx_isDigit_12 (dko_4 _)
theorem d_Tx_isDigit_13 : decode b_Tx_isDigit 13 = .ok (.goto 4, 3) := dk_S2 a_Tx_isDigit_13 (dko_167 _) (by decide +kernel)
theorem d_Tx_isDigit_16 : decode b_Tx_isDigit 16 = .ok (.iconst 0, 1) := dk_0 a_Tx_isDigit_16 (dko_3 _)
theorem d_Tx_isDigit_17 : decode b_Tx_isDigit 17 = .ok (.ireturn, 1) := dk_0 a_Tx_isDigit_17 (dko_172 _)
set_option maxHeartbeats 4000000 in
set_option maxRecDepth 100000 in
theorem ok_Tx_isDigit (pc : Nat) : OpS mt mi_Tx_isDigit pc (cs_Tx_isDigit pc) := (os_n (os_n (os_n (os_l (so_iload_n d_Tx_isDigit_0 rfl)) (os_l (so_bipush d_Tx_isDigit_1 (by decide)))) (os_n (os_l (so_iclt d_Tx_isDigit_3 (by decide))) (os_n (os_l (so_iload_n d_Tx_isDigit_6 rfl)) (os_l (so_bipush d_Tx_isDigit_7 (by decide)))))) (os_n (os_n (os_l (so_icgt d_Tx_isDigit_9 (by decide))) (os_l (so_iconst d_Tx_isDigit_12 (by decide)))) (os_n (os_l (so_goto d_Tx_isDigit_13 (by decide))) (os_n (os_l (so_iconst d_Tx_isDigit_16 (by decide))) (os_l (so_zreturn rfl d_Tx_isDigit_17))))))
abbrev t_Tx_isLetter_17 : List UInt8 := 172 :: []
abbrev t_Tx_isLetter_16 : List UInt8 := 3 :: t_Tx_isLetter_17
abbrev t_Tx_isLetter_13 : List UInt8 := 167 :: 0 :: 4 :: t_Tx_isLetter_16
abbrev t_Tx_isLetter_12 : List UInt8 := 4 :: t_Tx_isLetter_13
abbrev t_Tx_isLetter_9 : List UInt8 := 163 :: 0 :: 7 :: t_Tx_isLetter_12
abbrev t_Tx_isLetter_7 : List UInt8 := 16 :: 122 :: t_Tx_isLetter_9
abbrev t_Tx_isLetter_6 : List UInt8 := 26 :: t_Tx_isLetter_7
abbrev t_Tx_isLetter_3 : List UInt8 := 161 :: 0 :: 13 :: t_Tx_isLetter_6
abbrev t_Tx_isLetter_1 : List UInt8 := 16 :: 97 :: t_Tx_isLetter_3
abbrev t_Tx_isLetter_0 : List UInt8 := 26 :: t_Tx_isLetter_1
theorem a_Tx_isLetter_0 : dk_at b_Tx_isLetter 0 t_Tx_isLetter_0 := dk_start (by decide +kernel)
theorem a_Tx_isLetter_1 : dk_at b_Tx_isLetter 1 t_Tx_isLetter_1 := dk_go 1 a_Tx_isLetter_0 rfl
theorem a_Tx_isLetter_3 : dk_at b_Tx_isLetter 3 t_Tx_isLetter_3 := dk_go 2 a_Tx_isLetter_1 rfl
theorem a_Tx_isLetter_6 : dk_at b_Tx_isLetter 6 t_Tx_isLetter_6 := dk_go 3 a_Tx_isLetter_3 rfl
theorem a_Tx_isLetter_7 : dk_at b_Tx_isLetter 7 t_Tx_isLetter_7 := dk_go 1 a_Tx_isLetter_6 rfl
theorem a_Tx_isLetter_9 : dk_at b_Tx_isLetter 9 t_Tx_isLetter_9 := dk_go 2 a_Tx_isLetter_7 rfl
theorem a_Tx_isLetter_12 : dk_at b_Tx_isLetter 12 t_Tx_isLetter_12 := dk_go 3 a_Tx_isLetter_9 rfl
theorem a_Tx_isLetter_13 : dk_at b_Tx_isLetter 13 t_Tx_isLetter_13 := dk_go 1 a_Tx_isLetter_12 rfl
theorem a_Tx_isLetter_16 : dk_at b_Tx_isLetter 16 t_Tx_isLetter_16 := dk_go 3 a_Tx_isLetter_13 rfl
theorem a_Tx_isLetter_17 : dk_at b_Tx_isLetter 17 t_Tx_isLetter_17 := dk_go 1 a_Tx_isLetter_16 rfl
theorem d_Tx_isLetter_0 : decode b_Tx_isLetter 0 = .ok (.iload_n 0, 1) := dk_0 a_Tx_isLetter_0 (dko_26 _)
theorem d_Tx_isLetter_1 : decode b_Tx_isLetter 1 = .ok (.bipush 97, 2) := dk_S1 a_Tx_isLetter_1 (dko_16 _) (by decide +kernel)
theorem d_Tx_isLetter_3 : decode b_Tx_isLetter 3 = .ok (.if_icmp .lt 13, 3) := dk_S2 a_Tx_isLetter_3 (dko_161 _) (by decide +kernel)
theorem d_Tx_isLetter_6 : decode b_Tx_isLetter 6 = .ok (.iload_n 0, 1) := dk_0 a_Tx_isLetter_6 (dko_26 _)
theorem d_Tx_isLetter_7 : decode b_Tx_isLetter 7 = .ok (.bipush 122, 2) := dk_S1 a_Tx_isLetter_7 (dko_16 _) (by decide +kernel)
theorem d_Tx_isLetter_9 : decode b_Tx_isLetter 9 = .ok (.if_icmp .gt 7, 3) := dk_S2 a_Tx_isLetter_9 (dko_163 _) (by decide +kernel)
theorem d_Tx_isLetter_12 : decode b_Tx_isLetter 12 = .ok (.iconst 1, 1) := dk_0 a_Tx_isLetter_12 (dko_4 _)
theorem d_Tx_isLetter_13 : decode b_Tx_isLetter 13 = .ok (.goto 4, 3) := dk_S2 a_Tx_isLetter_13 (dko_167 _) (by decide +kernel)
theorem d_Tx_isLetter_16 : decode b_Tx_isLetter 16 = .ok (.iconst 0, 1) := dk_0 a_Tx_isLetter_16 (dko_3 _)
theorem d_Tx_isLetter_17 : decode b_Tx_isLetter 17 = .ok (.ireturn, 1) := dk_0 a_Tx_isLetter_17 (dko_172 _)
set_option maxHeartbeats 4000000 in
set_option maxRecDepth 100000 in
theorem ok_Tx_isLetter (pc : Nat) : OpS mt mi_Tx_isLetter pc (cs_Tx_isLetter pc) := (os_n (os_n (os_n (os_l (so_iload_n d_Tx_isLetter_0 rfl)) (os_l (so_bipush d_Tx_isLetter_1 (by decide)))) (os_n (os_l (so_iclt d_Tx_isLetter_3 (by decide))) (os_n (os_l (so_iload_n d_Tx_isLetter_6 rfl)) (os_l (so_bipush d_Tx_isLetter_7 (by decide)))))) (os_n (os_n (os_l (so_icgt d_Tx_isLetter_9 (by decide))) (os_l (so_iconst d_Tx_isLetter_12 (by decide)))) (os_n (os_l (so_goto d_Tx_isLetter_13 (by decide))) (os_n (os_l (so_iconst d_Tx_isLetter_16 (by decide))) (os_l (so_zreturn rfl d_Tx_isLetter_17))))))
abbrev t_Tx_is_67 : List UInt8 := 172 :: []
abbrev t_Tx_is_66 : List UInt8 := 3 :: t_Tx_is_67
abbrev t_Tx_is_63 : List UInt8 := 167 :: 0 :: 4 :: t_Tx_is_66
abbrev t_Tx_is_62 : List UInt8 := 4 :: t_Tx_is_63
abbrev t_Tx_is_59 : List UInt8 := 160 :: 0 :: 7 :: t_Tx_is_62
abbrev t_Tx_is_56 : List UInt8 := 180 :: 0 :: 72 :: t_Tx_is_59
abbrev t_Tx_is_55 : List UInt8 := 42 :: t_Tx_is_56
abbrev t_Tx_is_54 : List UInt8 := 29 :: t_Tx_is_55
abbrev t_Tx_is_51 : List UInt8 := 167 :: 255 :: 213 :: t_Tx_is_54
abbrev t_Tx_is_49 : List UInt8 := 55 :: 4 :: t_Tx_is_51
abbrev t_Tx_is_48 : List UInt8 := 125 :: t_Tx_is_49
abbrev t_Tx_is_46 : List UInt8 := 16 :: 8 :: t_Tx_is_48
abbrev t_Tx_is_44 : List UInt8 := 22 :: 4 :: t_Tx_is_46
abbrev t_Tx_is_41 : List UInt8 := 132 :: 3 :: 1 :: t_Tx_is_44
abbrev t_Tx_is_40 : List UInt8 := 172 :: t_Tx_is_41
abbrev t_Tx_is_39 : List UInt8 := 3 :: t_Tx_is_40
abbrev t_Tx_is_36 : List UInt8 := 159 :: 0 :: 5 :: t_Tx_is_39
abbrev t_Tx_is_35 : List UInt8 := 136 :: t_Tx_is_36
abbrev t_Tx_is_34 : List UInt8 := 127 :: t_Tx_is_35
abbrev t_Tx_is_31 : List UInt8 := 20 :: 0 :: 75 :: t_Tx_is_34
abbrev t_Tx_is_29 : List UInt8 := 22 :: 4 :: t_Tx_is_31
abbrev t_Tx_is_28 : List UInt8 := 51 :: t_Tx_is_29
abbrev t_Tx_is_27 : List UInt8 := 29 :: t_Tx_is_28
abbrev t_Tx_is_24 : List UInt8 := 180 :: 0 :: 11 :: t_Tx_is_27
abbrev t_Tx_is_23 : List UInt8 := 42 :: t_Tx_is_24
abbrev t_Tx_is_20 : List UInt8 := 162 :: 0 :: 19 :: t_Tx_is_23
abbrev t_Tx_is_17 : List UInt8 := 180 :: 0 :: 72 :: t_Tx_is_20
abbrev t_Tx_is_16 : List UInt8 := 42 :: t_Tx_is_17
abbrev t_Tx_is_15 : List UInt8 := 29 :: t_Tx_is_16
abbrev t_Tx_is_12 : List UInt8 := 153 :: 0 :: 42 :: t_Tx_is_15
abbrev t_Tx_is_11 : List UInt8 := 148 :: t_Tx_is_12
abbrev t_Tx_is_10 : List UInt8 := 9 :: t_Tx_is_11
abbrev t_Tx_is_8 : List UInt8 := 22 :: 4 :: t_Tx_is_10
abbrev t_Tx_is_6 : List UInt8 := 55 :: 4 :: t_Tx_is_8
abbrev t_Tx_is_5 : List UInt8 := 31 :: t_Tx_is_6
abbrev t_Tx_is_4 : List UInt8 := 62 :: t_Tx_is_5
abbrev t_Tx_is_1 : List UInt8 := 180 :: 0 :: 69 :: t_Tx_is_4
abbrev t_Tx_is_0 : List UInt8 := 42 :: t_Tx_is_1
theorem a_Tx_is_0 : dk_at b_Tx_is 0 t_Tx_is_0 := dk_start (by decide +kernel)
theorem a_Tx_is_1 : dk_at b_Tx_is 1 t_Tx_is_1 := dk_go 1 a_Tx_is_0 rfl
theorem a_Tx_is_4 : dk_at b_Tx_is 4 t_Tx_is_4 := dk_go 3 a_Tx_is_1 rfl
theorem a_Tx_is_5 : dk_at b_Tx_is 5 t_Tx_is_5 := dk_go 1 a_Tx_is_4 rfl
theorem a_Tx_is_6 : dk_at b_Tx_is 6 t_Tx_is_6 := dk_go 1 a_Tx_is_5 rfl
theorem a_Tx_is_8 : dk_at b_Tx_is 8 t_Tx_is_8 := dk_go 2 a_Tx_is_6 rfl
theorem a_Tx_is_10 : dk_at b_Tx_is 10 t_Tx_is_10 := dk_go 2 a_Tx_is_8 rfl
theorem a_Tx_is_11 : dk_at b_Tx_is 11 t_Tx_is_11 := dk_go 1 a_Tx_is_10 rfl
theorem a_Tx_is_12 : dk_at b_Tx_is 12 t_Tx_is_12 := dk_go 1 a_Tx_is_11 rfl
theorem a_Tx_is_15 : dk_at b_Tx_is 15 t_Tx_is_15 := dk_go 3 a_Tx_is_12 rfl
theorem a_Tx_is_16 : dk_at b_Tx_is 16 t_Tx_is_16 := dk_go 1 a_Tx_is_15 rfl
theorem a_Tx_is_17 : dk_at b_Tx_is 17 t_Tx_is_17 := dk_go 1 a_Tx_is_16 rfl
theorem a_Tx_is_20 : dk_at b_Tx_is 20 t_Tx_is_20 := dk_go 3 a_Tx_is_17 rfl
theorem a_Tx_is_23 : dk_at b_Tx_is 23 t_Tx_is_23 := dk_go 3 a_Tx_is_20 rfl
theorem a_Tx_is_24 : dk_at b_Tx_is 24 t_Tx_is_24 := dk_go 1 a_Tx_is_23 rfl
theorem a_Tx_is_27 : dk_at b_Tx_is 27 t_Tx_is_27 := dk_go 3 a_Tx_is_24 rfl
theorem a_Tx_is_28 : dk_at b_Tx_is 28 t_Tx_is_28 := dk_go 1 a_Tx_is_27 rfl
theorem a_Tx_is_29 : dk_at b_Tx_is 29 t_Tx_is_29 := dk_go 1 a_Tx_is_28 rfl
theorem a_Tx_is_31 : dk_at b_Tx_is 31 t_Tx_is_31 := dk_go 2 a_Tx_is_29 rfl
theorem a_Tx_is_34 : dk_at b_Tx_is 34 t_Tx_is_34 := dk_go 3 a_Tx_is_31 rfl
theorem a_Tx_is_35 : dk_at b_Tx_is 35 t_Tx_is_35 := dk_go 1 a_Tx_is_34 rfl
theorem a_Tx_is_36 : dk_at b_Tx_is 36 t_Tx_is_36 := dk_go 1 a_Tx_is_35 rfl
theorem a_Tx_is_39 : dk_at b_Tx_is 39 t_Tx_is_39 := dk_go 3 a_Tx_is_36 rfl
theorem a_Tx_is_40 : dk_at b_Tx_is 40 t_Tx_is_40 := dk_go 1 a_Tx_is_39 rfl
theorem a_Tx_is_41 : dk_at b_Tx_is 41 t_Tx_is_41 := dk_go 1 a_Tx_is_40 rfl
theorem a_Tx_is_44 : dk_at b_Tx_is 44 t_Tx_is_44 := dk_go 3 a_Tx_is_41 rfl
theorem a_Tx_is_46 : dk_at b_Tx_is 46 t_Tx_is_46 := dk_go 2 a_Tx_is_44 rfl
theorem a_Tx_is_48 : dk_at b_Tx_is 48 t_Tx_is_48 := dk_go 2 a_Tx_is_46 rfl
theorem a_Tx_is_49 : dk_at b_Tx_is 49 t_Tx_is_49 := dk_go 1 a_Tx_is_48 rfl
theorem a_Tx_is_51 : dk_at b_Tx_is 51 t_Tx_is_51 := dk_go 2 a_Tx_is_49 rfl
theorem a_Tx_is_54 : dk_at b_Tx_is 54 t_Tx_is_54 := dk_go 3 a_Tx_is_51 rfl
theorem a_Tx_is_55 : dk_at b_Tx_is 55 t_Tx_is_55 := dk_go 1 a_Tx_is_54 rfl
theorem a_Tx_is_56 : dk_at b_Tx_is 56 t_Tx_is_56 := dk_go 1 a_Tx_is_55 rfl
theorem a_Tx_is_59 : dk_at b_Tx_is 59 t_Tx_is_59 := dk_go 3 a_Tx_is_56 rfl
theorem a_Tx_is_62 : dk_at b_Tx_is 62 t_Tx_is_62 := dk_go 3 a_Tx_is_59 rfl
theorem a_Tx_is_63 : dk_at b_Tx_is 63 t_Tx_is_63 := dk_go 1 a_Tx_is_62 rfl
theorem a_Tx_is_66 : dk_at b_Tx_is 66 t_Tx_is_66 := dk_go 3 a_Tx_is_63 rfl
theorem a_Tx_is_67 : dk_at b_Tx_is 67 t_Tx_is_67 := dk_go 1 a_Tx_is_66 rfl
theorem d_Tx_is_0 : decode b_Tx_is 0 = .ok (.aload_n 0, 1) := dk_0 a_Tx_is_0 (dko_42 _)
theorem d_Tx_is_1 : decode b_Tx_is 1 = .ok (.getfield 69, 3) := dk_U2 a_Tx_is_1 (dko_180 _) rfl
theorem d_Tx_is_4 : decode b_Tx_is 4 = .ok (.istore_n 3, 1) := dk_0 a_Tx_is_4 (dko_62 _)
theorem d_Tx_is_5 : decode b_Tx_is 5 = .ok (.lload_n 1, 1) := dk_0 a_Tx_is_5 (dko_31 _)
theorem d_Tx_is_6 : decode b_Tx_is 6 = .ok (.lstore 4, 2) := dk_U1 a_Tx_is_6 (dko_55 _) rfl
theorem d_Tx_is_8 : decode b_Tx_is 8 = .ok (.lload 4, 2) := dk_U1 a_Tx_is_8 (dko_22 _) rfl
theorem d_Tx_is_10 : decode b_Tx_is 10 = .ok (.lconst 0, 1) := dk_0 a_Tx_is_10 (dko_9 _)
theorem d_Tx_is_11 : decode b_Tx_is 11 = .ok (.lcmp, 1) := dk_0 a_Tx_is_11 (dko_148 _)
theorem d_Tx_is_12 : decode b_Tx_is 12 = .ok (.ifCond .eq 42, 3) := dk_S2 a_Tx_is_12 (dko_153 _) (by decide +kernel)
theorem d_Tx_is_15 : decode b_Tx_is 15 = .ok (.iload_n 3, 1) := dk_0 a_Tx_is_15 (dko_29 _)
theorem d_Tx_is_16 : decode b_Tx_is 16 = .ok (.aload_n 0, 1) := dk_0 a_Tx_is_16 (dko_42 _)
theorem d_Tx_is_17 : decode b_Tx_is 17 = .ok (.getfield 72, 3) := dk_U2 a_Tx_is_17 (dko_180 _) rfl
theorem d_Tx_is_20 : decode b_Tx_is 20 = .ok (.if_icmp .ge 19, 3) := dk_S2 a_Tx_is_20 (dko_162 _) (by decide +kernel)
theorem d_Tx_is_23 : decode b_Tx_is 23 = .ok (.aload_n 0, 1) := dk_0 a_Tx_is_23 (dko_42 _)
theorem d_Tx_is_24 : decode b_Tx_is 24 = .ok (.getfield 11, 3) := dk_U2 a_Tx_is_24 (dko_180 _) rfl
theorem d_Tx_is_27 : decode b_Tx_is 27 = .ok (.iload_n 3, 1) := dk_0 a_Tx_is_27 (dko_29 _)
theorem d_Tx_is_28 : decode b_Tx_is 28 = .ok (.baload, 1) := dk_0 a_Tx_is_28 (dko_51 _)
theorem d_Tx_is_29 : decode b_Tx_is 29 = .ok (.lload 4, 2) := dk_U1 a_Tx_is_29 (dko_22 _) rfl
theorem d_Tx_is_31 : decode b_Tx_is 31 = .ok (.ldc2_w 75, 3) := dk_U2 a_Tx_is_31 (dko_20 _) rfl
theorem d_Tx_is_34 : decode b_Tx_is 34 = .ok (.land, 1) := dk_0 a_Tx_is_34 (dko_127 _)
theorem d_Tx_is_35 : decode b_Tx_is 35 = .ok (.l2i, 1) := dk_0 a_Tx_is_35 (dko_136 _)
theorem d_Tx_is_36 : decode b_Tx_is 36 = .ok (.if_icmp .eq 5, 3) := dk_S2 a_Tx_is_36 (dko_159 _) (by decide +kernel)
theorem d_Tx_is_39 : decode b_Tx_is 39 = .ok (.iconst 0, 1) := dk_0 a_Tx_is_39 (dko_3 _)
theorem d_Tx_is_40 : decode b_Tx_is 40 = .ok (.ireturn, 1) := dk_0 a_Tx_is_40 (dko_172 _)
theorem d_Tx_is_41 : decode b_Tx_is 41 = .ok (.iinc 3 1, 3) := dk_US a_Tx_is_41 (dko_132 _) (by decide +kernel)
theorem d_Tx_is_44 : decode b_Tx_is 44 = .ok (.lload 4, 2) := dk_U1 a_Tx_is_44 (dko_22 _) rfl
theorem d_Tx_is_46 : decode b_Tx_is 46 = .ok (.bipush 8, 2) := dk_S1 a_Tx_is_46 (dko_16 _) (by decide +kernel)
theorem d_Tx_is_48 : decode b_Tx_is 48 = .ok (.lushr, 1) := dk_0 a_Tx_is_48 (dko_125 _)
theorem d_Tx_is_49 : decode b_Tx_is 49 = .ok (.lstore 4, 2) := dk_U1 a_Tx_is_49 (dko_55 _) rfl
theorem d_Tx_is_51 : decode b_Tx_is 51 = .ok (.goto (-43), 3) := dk_S2 a_Tx_is_51 (dko_167 _) (by decide +kernel)
theorem d_Tx_is_54 : decode b_Tx_is 54 = .ok (.iload_n 3, 1) := dk_0 a_Tx_is_54 (dko_29 _)
theorem d_Tx_is_55 : decode b_Tx_is 55 = .ok (.aload_n 0, 1) := dk_0 a_Tx_is_55 (dko_42 _)
theorem d_Tx_is_56 : decode b_Tx_is 56 = .ok (.getfield 72, 3) := dk_U2 a_Tx_is_56 (dko_180 _) rfl
theorem d_Tx_is_59 : decode b_Tx_is 59 = .ok (.if_icmp .ne 7, 3) := dk_S2 a_Tx_is_59 (dko_160 _) (by decide +kernel)
theorem d_Tx_is_62 : decode b_Tx_is 62 = .ok (.iconst 1, 1) := dk_0 a_Tx_is_62 (dko_4 _)
theorem d_Tx_is_63 : decode b_Tx_is 63 = .ok (.goto 4, 3) := dk_S2 a_Tx_is_63 (dko_167 _) (by decide +kernel)
theorem d_Tx_is_66 : decode b_Tx_is 66 = .ok (.iconst 0, 1) := dk_0 a_Tx_is_66 (dko_3 _)
theorem d_Tx_is_67 : decode b_Tx_is 67 = .ok (.ireturn, 1) := dk_0 a_Tx_is_67 (dko_172 _)
set_option maxHeartbeats 4000000 in
set_option maxRecDepth 100000 in
theorem ok_Tx_is (pc : Nat) : OpS mt mi_Tx_is pc (cs_Tx_is pc) := (os_n (os_n (os_n (os_n (os_n (os_l (so_aload_n d_Tx_is_0 rfl)) (os_l (so_get (C := R_Tx) (T := F_Tx) (N := 39) (j := 5) in_Tx rfl (by decide) mw_1584 d_Tx_is_1))) (os_n (os_l (so_istore_n d_Tx_is_4 rfl (by decide))) (os_l (so_lload_n d_Tx_is_5 rfl)))) (os_n (os_n (os_l (so_lstore d_Tx_is_6 (by decide))) (os_l (so_lload d_Tx_is_8))) (os_n (os_l (so_lconst d_Tx_is_10 (by decide))) (os_n (os_l (so_lcmp d_Tx_is_11)) (os_l (so_ifeq d_Tx_is_12 (by decide))))))) (os_n (os_n (os_n (os_l (so_iload_n d_Tx_is_15 rfl)) (os_l (so_aload_n d_Tx_is_16 rfl))) (os_n (os_l (so_get (C := R_Tx) (T := F_Tx) (N := 39) (j := 6) in_Tx rfl (by decide) mw_1585 d_Tx_is_17)) (os_n (os_l (so_icge d_Tx_is_20 (by decide))) (os_l (so_aload_n d_Tx_is_23 rfl))))) (os_n (os_n (os_l (so_get (C := R_Tx) (T := F_Tx) (N := 39) (j := 0) in_Tx rfl (by decide) mw_1579 d_Tx_is_24)) (os_l (so_iload_n d_Tx_is_27 rfl))) (os_n (os_l (so_baload d_Tx_is_28)) (os_n (os_l (so_lload d_Tx_is_29)) (os_l (so_ldc2 mw_2213 d_Tx_is_31))))))) (os_n (os_n (os_n (os_n (os_l (so_land d_Tx_is_34)) (os_l (so_l2i d_Tx_is_35))) (os_n (os_l (so_iceq d_Tx_is_36 (by decide))) (os_l (so_iconst d_Tx_is_39 (by decide))))) (os_n (os_n (os_l (so_zreturn rfl d_Tx_is_40)) (os_l (so_iinc d_Tx_is_41 (by decide) (by decide)))) (os_n (os_l (so_lload d_Tx_is_44)) (os_n (os_l (so_bipush d_Tx_is_46 (by decide))) (os_l (so_lushr d_Tx_is_48)))))) (os_n (os_n (os_n (os_l (so_lstore d_Tx_is_49 (by decide))) (os_l (so_goto d_Tx_is_51 (by decide)))) (os_n (os_l (so_iload_n d_Tx_is_54 rfl)) (os_n (os_l (so_aload_n d_Tx_is_55 rfl)) (os_l (so_get (C := R_Tx) (T := F_Tx) (N := 39) (j := 6) in_Tx rfl (by decide) mw_1585 d_Tx_is_56))))) (os_n (os_n (os_l (so_icne d_Tx_is_59 (by decide))) (os_l (so_iconst d_Tx_is_62 (by decide)))) (os_n (os_l (so_goto d_Tx_is_63 (by decide))) (os_n (os_l (so_iconst d_Tx_is_66 (by decide))) (os_l (so_zreturn rfl d_Tx_is_67))))))))
abbrev t_Tx_meaning_415 : List UInt8 := 172 :: []
abbrev t_Tx_meaning_414 : List UInt8 := 29 :: t_Tx_meaning_415
abbrev t_Tx_meaning_411 : List UInt8 := 167 :: 0 :: 4 :: t_Tx_meaning_414
abbrev t_Tx_meaning_410 : List UInt8 := 28 :: t_Tx_meaning_411
abbrev t_Tx_meaning_407 : List UInt8 := 159 :: 0 :: 7 :: t_Tx_meaning_410
abbrev t_Tx_meaning_406 : List UInt8 := 2 :: t_Tx_meaning_407
abbrev t_Tx_meaning_405 : List UInt8 := 28 :: t_Tx_meaning_406
abbrev t_Tx_meaning_402 : List UInt8 := 167 :: 0 :: 13 :: t_Tx_meaning_405
abbrev t_Tx_meaning_401 : List UInt8 := 27 :: t_Tx_meaning_402
abbrev t_Tx_meaning_398 : List UInt8 := 159 :: 0 :: 7 :: t_Tx_meaning_401
abbrev t_Tx_meaning_397 : List UInt8 := 2 :: t_Tx_meaning_398
abbrev t_Tx_meaning_396 : List UInt8 := 27 :: t_Tx_meaning_397
abbrev t_Tx_meaning_395 : List UInt8 := 62 :: t_Tx_meaning_396
abbrev t_Tx_meaning_394 : List UInt8 := 2 :: t_Tx_meaning_395
abbrev t_Tx_meaning_391 : List UInt8 := 167 :: 0 :: 4 :: t_Tx_meaning_394
abbrev t_Tx_meaning_389 : List UInt8 := 16 :: 46 :: t_Tx_meaning_391
abbrev t_Tx_meaning_386 : List UInt8 := 153 :: 0 :: 8 :: t_Tx_meaning_389
abbrev t_Tx_meaning_383 : List UInt8 := 182 :: 0 :: 79 :: t_Tx_meaning_386
abbrev t_Tx_meaning_380 : List UInt8 := 20 :: 0 :: 131 :: t_Tx_meaning_383
abbrev t_Tx_meaning_379 : List UInt8 := 42 :: t_Tx_meaning_380
abbrev t_Tx_meaning_376 : List UInt8 := 167 :: 0 :: 19 :: t_Tx_meaning_379
abbrev t_Tx_meaning_374 : List UInt8 := 16 :: 45 :: t_Tx_meaning_376
abbrev t_Tx_meaning_371 : List UInt8 := 153 :: 0 :: 8 :: t_Tx_meaning_374
abbrev t_Tx_meaning_368 : List UInt8 := 182 :: 0 :: 79 :: t_Tx_meaning_371
abbrev t_Tx_meaning_365 : List UInt8 := 20 :: 0 :: 129 :: t_Tx_meaning_368
abbrev t_Tx_meaning_364 : List UInt8 := 42 :: t_Tx_meaning_365
abbrev t_Tx_meaning_361 : List UInt8 := 167 :: 0 :: 34 :: t_Tx_meaning_364
abbrev t_Tx_meaning_359 : List UInt8 := 16 :: 44 :: t_Tx_meaning_361
abbrev t_Tx_meaning_356 : List UInt8 := 153 :: 0 :: 8 :: t_Tx_meaning_359
abbrev t_Tx_meaning_353 : List UInt8 := 182 :: 0 :: 79 :: t_Tx_meaning_356
abbrev t_Tx_meaning_350 : List UInt8 := 20 :: 0 :: 127 :: t_Tx_meaning_353
abbrev t_Tx_meaning_349 : List UInt8 := 42 :: t_Tx_meaning_350
abbrev t_Tx_meaning_346 : List UInt8 := 167 :: 0 :: 49 :: t_Tx_meaning_349
abbrev t_Tx_meaning_344 : List UInt8 := 16 :: 43 :: t_Tx_meaning_346
abbrev t_Tx_meaning_341 : List UInt8 := 153 :: 0 :: 8 :: t_Tx_meaning_344
abbrev t_Tx_meaning_338 : List UInt8 := 182 :: 0 :: 79 :: t_Tx_meaning_341
abbrev t_Tx_meaning_335 : List UInt8 := 20 :: 0 :: 125 :: t_Tx_meaning_338
abbrev t_Tx_meaning_334 : List UInt8 := 42 :: t_Tx_meaning_335
abbrev t_Tx_meaning_331 : List UInt8 := 167 :: 0 :: 64 :: t_Tx_meaning_334
abbrev t_Tx_meaning_329 : List UInt8 := 16 :: 42 :: t_Tx_meaning_331
abbrev t_Tx_meaning_326 : List UInt8 := 153 :: 0 :: 8 :: t_Tx_meaning_329
abbrev t_Tx_meaning_323 : List UInt8 := 182 :: 0 :: 79 :: t_Tx_meaning_326
abbrev t_Tx_meaning_320 : List UInt8 := 20 :: 0 :: 123 :: t_Tx_meaning_323
abbrev t_Tx_meaning_319 : List UInt8 := 42 :: t_Tx_meaning_320
abbrev t_Tx_meaning_316 : List UInt8 := 167 :: 0 :: 79 :: t_Tx_meaning_319
abbrev t_Tx_meaning_314 : List UInt8 := 16 :: 41 :: t_Tx_meaning_316
abbrev t_Tx_meaning_311 : List UInt8 := 153 :: 0 :: 8 :: t_Tx_meaning_314
abbrev t_Tx_meaning_308 : List UInt8 := 182 :: 0 :: 79 :: t_Tx_meaning_311
abbrev t_Tx_meaning_305 : List UInt8 := 20 :: 0 :: 121 :: t_Tx_meaning_308
abbrev t_Tx_meaning_304 : List UInt8 := 42 :: t_Tx_meaning_305
abbrev t_Tx_meaning_301 : List UInt8 := 167 :: 0 :: 94 :: t_Tx_meaning_304
abbrev t_Tx_meaning_299 : List UInt8 := 16 :: 40 :: t_Tx_meaning_301
abbrev t_Tx_meaning_296 : List UInt8 := 153 :: 0 :: 8 :: t_Tx_meaning_299
abbrev t_Tx_meaning_293 : List UInt8 := 182 :: 0 :: 79 :: t_Tx_meaning_296
abbrev t_Tx_meaning_290 : List UInt8 := 20 :: 0 :: 119 :: t_Tx_meaning_293
abbrev t_Tx_meaning_289 : List UInt8 := 42 :: t_Tx_meaning_290
abbrev t_Tx_meaning_286 : List UInt8 := 167 :: 0 :: 109 :: t_Tx_meaning_289
abbrev t_Tx_meaning_284 : List UInt8 := 16 :: 34 :: t_Tx_meaning_286
abbrev t_Tx_meaning_281 : List UInt8 := 153 :: 0 :: 8 :: t_Tx_meaning_284
abbrev t_Tx_meaning_278 : List UInt8 := 182 :: 0 :: 79 :: t_Tx_meaning_281
abbrev t_Tx_meaning_275 : List UInt8 := 20 :: 0 :: 117 :: t_Tx_meaning_278
abbrev t_Tx_meaning_274 : List UInt8 := 42 :: t_Tx_meaning_275
abbrev t_Tx_meaning_271 : List UInt8 := 167 :: 0 :: 124 :: t_Tx_meaning_274
abbrev t_Tx_meaning_269 : List UInt8 := 16 :: 33 :: t_Tx_meaning_271
abbrev t_Tx_meaning_266 : List UInt8 := 153 :: 0 :: 8 :: t_Tx_meaning_269
abbrev t_Tx_meaning_263 : List UInt8 := 182 :: 0 :: 79 :: t_Tx_meaning_266
abbrev t_Tx_meaning_260 : List UInt8 := 20 :: 0 :: 115 :: t_Tx_meaning_263
abbrev t_Tx_meaning_259 : List UInt8 := 42 :: t_Tx_meaning_260
abbrev t_Tx_meaning_258 : List UInt8 := 61 :: t_Tx_meaning_259
abbrev t_Tx_meaning_257 : List UInt8 := 2 :: t_Tx_meaning_258
abbrev t_Tx_meaning_254 : List UInt8 := 167 :: 0 :: 4 :: t_Tx_meaning_257
abbrev t_Tx_meaning_252 : List UInt8 := 16 :: 32 :: t_Tx_meaning_254
abbrev t_Tx_meaning_249 : List UInt8 := 153 :: 0 :: 8 :: t_Tx_meaning_252
abbrev t_Tx_meaning_246 : List UInt8 := 182 :: 0 :: 79 :: t_Tx_meaning_249
abbrev t_Tx_meaning_243 : List UInt8 := 20 :: 0 :: 113 :: t_Tx_meaning_246
abbrev t_Tx_meaning_242 : List UInt8 := 42 :: t_Tx_meaning_243
abbrev t_Tx_meaning_239 : List UInt8 := 167 :: 0 :: 19 :: t_Tx_meaning_242
abbrev t_Tx_meaning_237 : List UInt8 := 16 :: 31 :: t_Tx_meaning_239
abbrev t_Tx_meaning_234 : List UInt8 := 153 :: 0 :: 8 :: t_Tx_meaning_237
abbrev t_Tx_meaning_231 : List UInt8 := 182 :: 0 :: 79 :: t_Tx_meaning_234
abbrev t_Tx_meaning_228 : List UInt8 := 20 :: 0 :: 111 :: t_Tx_meaning_231
abbrev t_Tx_meaning_227 : List UInt8 := 42 :: t_Tx_meaning_228
abbrev t_Tx_meaning_224 : List UInt8 := 167 :: 0 :: 34 :: t_Tx_meaning_227
abbrev t_Tx_meaning_222 : List UInt8 := 16 :: 30 :: t_Tx_meaning_224
abbrev t_Tx_meaning_219 : List UInt8 := 153 :: 0 :: 8 :: t_Tx_meaning_222
abbrev t_Tx_meaning_216 : List UInt8 := 182 :: 0 :: 79 :: t_Tx_meaning_219
abbrev t_Tx_meaning_213 : List UInt8 := 20 :: 0 :: 109 :: t_Tx_meaning_216
abbrev t_Tx_meaning_212 : List UInt8 := 42 :: t_Tx_meaning_213
abbrev t_Tx_meaning_209 : List UInt8 := 167 :: 0 :: 49 :: t_Tx_meaning_212
abbrev t_Tx_meaning_207 : List UInt8 := 16 :: 24 :: t_Tx_meaning_209
abbrev t_Tx_meaning_204 : List UInt8 := 153 :: 0 :: 8 :: t_Tx_meaning_207
abbrev t_Tx_meaning_201 : List UInt8 := 182 :: 0 :: 79 :: t_Tx_meaning_204
abbrev t_Tx_meaning_198 : List UInt8 := 20 :: 0 :: 107 :: t_Tx_meaning_201
abbrev t_Tx_meaning_197 : List UInt8 := 42 :: t_Tx_meaning_198
abbrev t_Tx_meaning_194 : List UInt8 := 167 :: 0 :: 64 :: t_Tx_meaning_197
abbrev t_Tx_meaning_192 : List UInt8 := 16 :: 22 :: t_Tx_meaning_194
abbrev t_Tx_meaning_189 : List UInt8 := 153 :: 0 :: 8 :: t_Tx_meaning_192
abbrev t_Tx_meaning_186 : List UInt8 := 182 :: 0 :: 79 :: t_Tx_meaning_189
abbrev t_Tx_meaning_183 : List UInt8 := 20 :: 0 :: 105 :: t_Tx_meaning_186
abbrev t_Tx_meaning_182 : List UInt8 := 42 :: t_Tx_meaning_183
abbrev t_Tx_meaning_179 : List UInt8 := 167 :: 0 :: 79 :: t_Tx_meaning_182
abbrev t_Tx_meaning_177 : List UInt8 := 16 :: 21 :: t_Tx_meaning_179
abbrev t_Tx_meaning_174 : List UInt8 := 153 :: 0 :: 8 :: t_Tx_meaning_177
abbrev t_Tx_meaning_171 : List UInt8 := 182 :: 0 :: 79 :: t_Tx_meaning_174
abbrev t_Tx_meaning_168 : List UInt8 := 20 :: 0 :: 103 :: t_Tx_meaning_171
abbrev t_Tx_meaning_167 : List UInt8 := 42 :: t_Tx_meaning_168
abbrev t_Tx_meaning_164 : List UInt8 := 167 :: 0 :: 94 :: t_Tx_meaning_167
abbrev t_Tx_meaning_162 : List UInt8 := 16 :: 20 :: t_Tx_meaning_164
abbrev t_Tx_meaning_159 : List UInt8 := 153 :: 0 :: 8 :: t_Tx_meaning_162
abbrev t_Tx_meaning_156 : List UInt8 := 182 :: 0 :: 79 :: t_Tx_meaning_159
abbrev t_Tx_meaning_153 : List UInt8 := 20 :: 0 :: 101 :: t_Tx_meaning_156
abbrev t_Tx_meaning_152 : List UInt8 := 42 :: t_Tx_meaning_153
abbrev t_Tx_meaning_149 : List UInt8 := 167 :: 0 :: 109 :: t_Tx_meaning_152
abbrev t_Tx_meaning_147 : List UInt8 := 16 :: 19 :: t_Tx_meaning_149
abbrev t_Tx_meaning_144 : List UInt8 := 153 :: 0 :: 8 :: t_Tx_meaning_147
abbrev t_Tx_meaning_141 : List UInt8 := 182 :: 0 :: 79 :: t_Tx_meaning_144
abbrev t_Tx_meaning_138 : List UInt8 := 20 :: 0 :: 99 :: t_Tx_meaning_141
abbrev t_Tx_meaning_137 : List UInt8 := 42 :: t_Tx_meaning_138
abbrev t_Tx_meaning_134 : List UInt8 := 167 :: 0 :: 124 :: t_Tx_meaning_137
abbrev t_Tx_meaning_132 : List UInt8 := 16 :: 18 :: t_Tx_meaning_134
abbrev t_Tx_meaning_129 : List UInt8 := 153 :: 0 :: 8 :: t_Tx_meaning_132
abbrev t_Tx_meaning_126 : List UInt8 := 182 :: 0 :: 79 :: t_Tx_meaning_129
abbrev t_Tx_meaning_123 : List UInt8 := 20 :: 0 :: 97 :: t_Tx_meaning_126
abbrev t_Tx_meaning_122 : List UInt8 := 42 :: t_Tx_meaning_123
abbrev t_Tx_meaning_121 : List UInt8 := 60 :: t_Tx_meaning_122
abbrev t_Tx_meaning_120 : List UInt8 := 2 :: t_Tx_meaning_121
abbrev t_Tx_meaning_117 : List UInt8 := 167 :: 0 :: 4 :: t_Tx_meaning_120
abbrev t_Tx_meaning_115 : List UInt8 := 16 :: 17 :: t_Tx_meaning_117
abbrev t_Tx_meaning_112 : List UInt8 := 153 :: 0 :: 8 :: t_Tx_meaning_115
abbrev t_Tx_meaning_109 : List UInt8 := 182 :: 0 :: 79 :: t_Tx_meaning_112
abbrev t_Tx_meaning_106 : List UInt8 := 20 :: 0 :: 95 :: t_Tx_meaning_109
abbrev t_Tx_meaning_105 : List UInt8 := 42 :: t_Tx_meaning_106
abbrev t_Tx_meaning_102 : List UInt8 := 167 :: 0 :: 19 :: t_Tx_meaning_105
abbrev t_Tx_meaning_100 : List UInt8 := 16 :: 16 :: t_Tx_meaning_102
abbrev t_Tx_meaning_97 : List UInt8 := 153 :: 0 :: 8 :: t_Tx_meaning_100
abbrev t_Tx_meaning_94 : List UInt8 := 182 :: 0 :: 79 :: t_Tx_meaning_97
abbrev t_Tx_meaning_91 : List UInt8 := 20 :: 0 :: 93 :: t_Tx_meaning_94
abbrev t_Tx_meaning_90 : List UInt8 := 42 :: t_Tx_meaning_91
abbrev t_Tx_meaning_87 : List UInt8 := 167 :: 0 :: 34 :: t_Tx_meaning_90
abbrev t_Tx_meaning_85 : List UInt8 := 16 :: 15 :: t_Tx_meaning_87
abbrev t_Tx_meaning_82 : List UInt8 := 153 :: 0 :: 8 :: t_Tx_meaning_85
abbrev t_Tx_meaning_79 : List UInt8 := 182 :: 0 :: 79 :: t_Tx_meaning_82
abbrev t_Tx_meaning_76 : List UInt8 := 20 :: 0 :: 91 :: t_Tx_meaning_79
abbrev t_Tx_meaning_75 : List UInt8 := 42 :: t_Tx_meaning_76
abbrev t_Tx_meaning_72 : List UInt8 := 167 :: 0 :: 49 :: t_Tx_meaning_75
abbrev t_Tx_meaning_70 : List UInt8 := 16 :: 14 :: t_Tx_meaning_72
abbrev t_Tx_meaning_67 : List UInt8 := 153 :: 0 :: 8 :: t_Tx_meaning_70
abbrev t_Tx_meaning_64 : List UInt8 := 182 :: 0 :: 79 :: t_Tx_meaning_67
abbrev t_Tx_meaning_61 : List UInt8 := 20 :: 0 :: 89 :: t_Tx_meaning_64
abbrev t_Tx_meaning_60 : List UInt8 := 42 :: t_Tx_meaning_61
abbrev t_Tx_meaning_57 : List UInt8 := 167 :: 0 :: 64 :: t_Tx_meaning_60
abbrev t_Tx_meaning_55 : List UInt8 := 16 :: 13 :: t_Tx_meaning_57
abbrev t_Tx_meaning_52 : List UInt8 := 153 :: 0 :: 8 :: t_Tx_meaning_55
abbrev t_Tx_meaning_49 : List UInt8 := 182 :: 0 :: 79 :: t_Tx_meaning_52
abbrev t_Tx_meaning_46 : List UInt8 := 20 :: 0 :: 87 :: t_Tx_meaning_49
abbrev t_Tx_meaning_45 : List UInt8 := 42 :: t_Tx_meaning_46
abbrev t_Tx_meaning_42 : List UInt8 := 167 :: 0 :: 79 :: t_Tx_meaning_45
abbrev t_Tx_meaning_40 : List UInt8 := 16 :: 12 :: t_Tx_meaning_42
abbrev t_Tx_meaning_37 : List UInt8 := 153 :: 0 :: 8 :: t_Tx_meaning_40
abbrev t_Tx_meaning_34 : List UInt8 := 182 :: 0 :: 79 :: t_Tx_meaning_37
abbrev t_Tx_meaning_31 : List UInt8 := 20 :: 0 :: 85 :: t_Tx_meaning_34
abbrev t_Tx_meaning_30 : List UInt8 := 42 :: t_Tx_meaning_31
abbrev t_Tx_meaning_27 : List UInt8 := 167 :: 0 :: 94 :: t_Tx_meaning_30
abbrev t_Tx_meaning_25 : List UInt8 := 16 :: 11 :: t_Tx_meaning_27
abbrev t_Tx_meaning_22 : List UInt8 := 153 :: 0 :: 8 :: t_Tx_meaning_25
abbrev t_Tx_meaning_19 : List UInt8 := 182 :: 0 :: 79 :: t_Tx_meaning_22
abbrev t_Tx_meaning_16 : List UInt8 := 20 :: 0 :: 83 :: t_Tx_meaning_19
abbrev t_Tx_meaning_15 : List UInt8 := 42 :: t_Tx_meaning_16
abbrev t_Tx_meaning_12 : List UInt8 := 167 :: 0 :: 109 :: t_Tx_meaning_15
abbrev t_Tx_meaning_10 : List UInt8 := 16 :: 10 :: t_Tx_meaning_12
abbrev t_Tx_meaning_7 : List UInt8 := 153 :: 0 :: 8 :: t_Tx_meaning_10
abbrev t_Tx_meaning_4 : List UInt8 := 182 :: 0 :: 79 :: t_Tx_meaning_7
abbrev t_Tx_meaning_1 : List UInt8 := 20 :: 0 :: 77 :: t_Tx_meaning_4
abbrev t_Tx_meaning_0 : List UInt8 := 42 :: t_Tx_meaning_1
theorem a_Tx_meaning_0 : dk_at b_Tx_meaning 0 t_Tx_meaning_0 := dk_start (by decide +kernel)
theorem a_Tx_meaning_1 : dk_at b_Tx_meaning 1 t_Tx_meaning_1 := dk_go 1 a_Tx_meaning_0 rfl
theorem a_Tx_meaning_4 : dk_at b_Tx_meaning 4 t_Tx_meaning_4 := dk_go 3 a_Tx_meaning_1 rfl
theorem a_Tx_meaning_7 : dk_at b_Tx_meaning 7 t_Tx_meaning_7 := dk_go 3 a_Tx_meaning_4 rfl
theorem a_Tx_meaning_10 : dk_at b_Tx_meaning 10 t_Tx_meaning_10 := dk_go 3 a_Tx_meaning_7 rfl
theorem a_Tx_meaning_12 : dk_at b_Tx_meaning 12 t_Tx_meaning_12 := dk_go 2 a_Tx_meaning_10 rfl
theorem a_Tx_meaning_15 : dk_at b_Tx_meaning 15 t_Tx_meaning_15 := dk_go 3 a_Tx_meaning_12 rfl
theorem a_Tx_meaning_16 : dk_at b_Tx_meaning 16 t_Tx_meaning_16 := dk_go 1 a_Tx_meaning_15 rfl
theorem a_Tx_meaning_19 : dk_at b_Tx_meaning 19 t_Tx_meaning_19 := dk_go 3 a_Tx_meaning_16 rfl
theorem a_Tx_meaning_22 : dk_at b_Tx_meaning 22 t_Tx_meaning_22 := dk_go 3 a_Tx_meaning_19 rfl
theorem a_Tx_meaning_25 : dk_at b_Tx_meaning 25 t_Tx_meaning_25 := dk_go 3 a_Tx_meaning_22 rfl
theorem a_Tx_meaning_27 : dk_at b_Tx_meaning 27 t_Tx_meaning_27 := dk_go 2 a_Tx_meaning_25 rfl
theorem a_Tx_meaning_30 : dk_at b_Tx_meaning 30 t_Tx_meaning_30 := dk_go 3 a_Tx_meaning_27 rfl
theorem a_Tx_meaning_31 : dk_at b_Tx_meaning 31 t_Tx_meaning_31 := dk_go 1 a_Tx_meaning_30 rfl
theorem a_Tx_meaning_34 : dk_at b_Tx_meaning 34 t_Tx_meaning_34 := dk_go 3 a_Tx_meaning_31 rfl
theorem a_Tx_meaning_37 : dk_at b_Tx_meaning 37 t_Tx_meaning_37 := dk_go 3 a_Tx_meaning_34 rfl
theorem a_Tx_meaning_40 : dk_at b_Tx_meaning 40 t_Tx_meaning_40 := dk_go 3 a_Tx_meaning_37 rfl
theorem a_Tx_meaning_42 : dk_at b_Tx_meaning 42 t_Tx_meaning_42 := dk_go 2 a_Tx_meaning_40 rfl
theorem a_Tx_meaning_45 : dk_at b_Tx_meaning 45 t_Tx_meaning_45 := dk_go 3 a_Tx_meaning_42 rfl
theorem a_Tx_meaning_46 : dk_at b_Tx_meaning 46 t_Tx_meaning_46 := dk_go 1 a_Tx_meaning_45 rfl
theorem a_Tx_meaning_49 : dk_at b_Tx_meaning 49 t_Tx_meaning_49 := dk_go 3 a_Tx_meaning_46 rfl
theorem a_Tx_meaning_52 : dk_at b_Tx_meaning 52 t_Tx_meaning_52 := dk_go 3 a_Tx_meaning_49 rfl
theorem a_Tx_meaning_55 : dk_at b_Tx_meaning 55 t_Tx_meaning_55 := dk_go 3 a_Tx_meaning_52 rfl
theorem a_Tx_meaning_57 : dk_at b_Tx_meaning 57 t_Tx_meaning_57 := dk_go 2 a_Tx_meaning_55 rfl
theorem a_Tx_meaning_60 : dk_at b_Tx_meaning 60 t_Tx_meaning_60 := dk_go 3 a_Tx_meaning_57 rfl
theorem a_Tx_meaning_61 : dk_at b_Tx_meaning 61 t_Tx_meaning_61 := dk_go 1 a_Tx_meaning_60 rfl
theorem a_Tx_meaning_64 : dk_at b_Tx_meaning 64 t_Tx_meaning_64 := dk_go 3 a_Tx_meaning_61 rfl
theorem a_Tx_meaning_67 : dk_at b_Tx_meaning 67 t_Tx_meaning_67 := dk_go 3 a_Tx_meaning_64 rfl
theorem a_Tx_meaning_70 : dk_at b_Tx_meaning 70 t_Tx_meaning_70 := dk_go 3 a_Tx_meaning_67 rfl
theorem a_Tx_meaning_72 : dk_at b_Tx_meaning 72 t_Tx_meaning_72 := dk_go 2 a_Tx_meaning_70 rfl
theorem a_Tx_meaning_75 : dk_at b_Tx_meaning 75 t_Tx_meaning_75 := dk_go 3 a_Tx_meaning_72 rfl
theorem a_Tx_meaning_76 : dk_at b_Tx_meaning 76 t_Tx_meaning_76 := dk_go 1 a_Tx_meaning_75 rfl
theorem a_Tx_meaning_79 : dk_at b_Tx_meaning 79 t_Tx_meaning_79 := dk_go 3 a_Tx_meaning_76 rfl
theorem a_Tx_meaning_82 : dk_at b_Tx_meaning 82 t_Tx_meaning_82 := dk_go 3 a_Tx_meaning_79 rfl
theorem a_Tx_meaning_85 : dk_at b_Tx_meaning 85 t_Tx_meaning_85 := dk_go 3 a_Tx_meaning_82 rfl
theorem a_Tx_meaning_87 : dk_at b_Tx_meaning 87 t_Tx_meaning_87 := dk_go 2 a_Tx_meaning_85 rfl
theorem a_Tx_meaning_90 : dk_at b_Tx_meaning 90 t_Tx_meaning_90 := dk_go 3 a_Tx_meaning_87 rfl
theorem a_Tx_meaning_91 : dk_at b_Tx_meaning 91 t_Tx_meaning_91 := dk_go 1 a_Tx_meaning_90 rfl
theorem a_Tx_meaning_94 : dk_at b_Tx_meaning 94 t_Tx_meaning_94 := dk_go 3 a_Tx_meaning_91 rfl
theorem a_Tx_meaning_97 : dk_at b_Tx_meaning 97 t_Tx_meaning_97 := dk_go 3 a_Tx_meaning_94 rfl
theorem a_Tx_meaning_100 : dk_at b_Tx_meaning 100 t_Tx_meaning_100 := dk_go 3 a_Tx_meaning_97 rfl
theorem a_Tx_meaning_102 : dk_at b_Tx_meaning 102 t_Tx_meaning_102 := dk_go 2 a_Tx_meaning_100 rfl
theorem a_Tx_meaning_105 : dk_at b_Tx_meaning 105 t_Tx_meaning_105 := dk_go 3 a_Tx_meaning_102 rfl
theorem a_Tx_meaning_106 : dk_at b_Tx_meaning 106 t_Tx_meaning_106 := dk_go 1 a_Tx_meaning_105 rfl
theorem a_Tx_meaning_109 : dk_at b_Tx_meaning 109 t_Tx_meaning_109 := dk_go 3 a_Tx_meaning_106 rfl
theorem a_Tx_meaning_112 : dk_at b_Tx_meaning 112 t_Tx_meaning_112 := dk_go 3 a_Tx_meaning_109 rfl
theorem a_Tx_meaning_115 : dk_at b_Tx_meaning 115 t_Tx_meaning_115 := dk_go 3 a_Tx_meaning_112 rfl
theorem a_Tx_meaning_117 : dk_at b_Tx_meaning 117 t_Tx_meaning_117 := dk_go 2 a_Tx_meaning_115 rfl
theorem a_Tx_meaning_120 : dk_at b_Tx_meaning 120 t_Tx_meaning_120 := dk_go 3 a_Tx_meaning_117 rfl
theorem a_Tx_meaning_121 : dk_at b_Tx_meaning 121 t_Tx_meaning_121 := dk_go 1 a_Tx_meaning_120 rfl
theorem a_Tx_meaning_122 : dk_at b_Tx_meaning 122 t_Tx_meaning_122 := dk_go 1 a_Tx_meaning_121 rfl
theorem a_Tx_meaning_123 : dk_at b_Tx_meaning 123 t_Tx_meaning_123 := dk_go 1 a_Tx_meaning_122 rfl
theorem a_Tx_meaning_126 : dk_at b_Tx_meaning 126 t_Tx_meaning_126 := dk_go 3 a_Tx_meaning_123 rfl
theorem a_Tx_meaning_129 : dk_at b_Tx_meaning 129 t_Tx_meaning_129 := dk_go 3 a_Tx_meaning_126 rfl
theorem a_Tx_meaning_132 : dk_at b_Tx_meaning 132 t_Tx_meaning_132 := dk_go 3 a_Tx_meaning_129 rfl
theorem a_Tx_meaning_134 : dk_at b_Tx_meaning 134 t_Tx_meaning_134 := dk_go 2 a_Tx_meaning_132 rfl
theorem a_Tx_meaning_137 : dk_at b_Tx_meaning 137 t_Tx_meaning_137 := dk_go 3 a_Tx_meaning_134 rfl
theorem a_Tx_meaning_138 : dk_at b_Tx_meaning 138 t_Tx_meaning_138 := dk_go 1 a_Tx_meaning_137 rfl
theorem a_Tx_meaning_141 : dk_at b_Tx_meaning 141 t_Tx_meaning_141 := dk_go 3 a_Tx_meaning_138 rfl
theorem a_Tx_meaning_144 : dk_at b_Tx_meaning 144 t_Tx_meaning_144 := dk_go 3 a_Tx_meaning_141 rfl
theorem a_Tx_meaning_147 : dk_at b_Tx_meaning 147 t_Tx_meaning_147 := dk_go 3 a_Tx_meaning_144 rfl
theorem a_Tx_meaning_149 : dk_at b_Tx_meaning 149 t_Tx_meaning_149 := dk_go 2 a_Tx_meaning_147 rfl
theorem a_Tx_meaning_152 : dk_at b_Tx_meaning 152 t_Tx_meaning_152 := dk_go 3 a_Tx_meaning_149 rfl
theorem a_Tx_meaning_153 : dk_at b_Tx_meaning 153 t_Tx_meaning_153 := dk_go 1 a_Tx_meaning_152 rfl
theorem a_Tx_meaning_156 : dk_at b_Tx_meaning 156 t_Tx_meaning_156 := dk_go 3 a_Tx_meaning_153 rfl
theorem a_Tx_meaning_159 : dk_at b_Tx_meaning 159 t_Tx_meaning_159 := dk_go 3 a_Tx_meaning_156 rfl
theorem a_Tx_meaning_162 : dk_at b_Tx_meaning 162 t_Tx_meaning_162 := dk_go 3 a_Tx_meaning_159 rfl
theorem a_Tx_meaning_164 : dk_at b_Tx_meaning 164 t_Tx_meaning_164 := dk_go 2 a_Tx_meaning_162 rfl
theorem a_Tx_meaning_167 : dk_at b_Tx_meaning 167 t_Tx_meaning_167 := dk_go 3 a_Tx_meaning_164 rfl
theorem a_Tx_meaning_168 : dk_at b_Tx_meaning 168 t_Tx_meaning_168 := dk_go 1 a_Tx_meaning_167 rfl
theorem a_Tx_meaning_171 : dk_at b_Tx_meaning 171 t_Tx_meaning_171 := dk_go 3 a_Tx_meaning_168 rfl
theorem a_Tx_meaning_174 : dk_at b_Tx_meaning 174 t_Tx_meaning_174 := dk_go 3 a_Tx_meaning_171 rfl
theorem a_Tx_meaning_177 : dk_at b_Tx_meaning 177 t_Tx_meaning_177 := dk_go 3 a_Tx_meaning_174 rfl
theorem a_Tx_meaning_179 : dk_at b_Tx_meaning 179 t_Tx_meaning_179 := dk_go 2 a_Tx_meaning_177 rfl
theorem a_Tx_meaning_182 : dk_at b_Tx_meaning 182 t_Tx_meaning_182 := dk_go 3 a_Tx_meaning_179 rfl
theorem a_Tx_meaning_183 : dk_at b_Tx_meaning 183 t_Tx_meaning_183 := dk_go 1 a_Tx_meaning_182 rfl
theorem a_Tx_meaning_186 : dk_at b_Tx_meaning 186 t_Tx_meaning_186 := dk_go 3 a_Tx_meaning_183 rfl
theorem a_Tx_meaning_189 : dk_at b_Tx_meaning 189 t_Tx_meaning_189 := dk_go 3 a_Tx_meaning_186 rfl
theorem a_Tx_meaning_192 : dk_at b_Tx_meaning 192 t_Tx_meaning_192 := dk_go 3 a_Tx_meaning_189 rfl
theorem a_Tx_meaning_194 : dk_at b_Tx_meaning 194 t_Tx_meaning_194 := dk_go 2 a_Tx_meaning_192 rfl
theorem a_Tx_meaning_197 : dk_at b_Tx_meaning 197 t_Tx_meaning_197 := dk_go 3 a_Tx_meaning_194 rfl
theorem a_Tx_meaning_198 : dk_at b_Tx_meaning 198 t_Tx_meaning_198 := dk_go 1 a_Tx_meaning_197 rfl
theorem a_Tx_meaning_201 : dk_at b_Tx_meaning 201 t_Tx_meaning_201 := dk_go 3 a_Tx_meaning_198 rfl
theorem a_Tx_meaning_204 : dk_at b_Tx_meaning 204 t_Tx_meaning_204 := dk_go 3 a_Tx_meaning_201 rfl
theorem a_Tx_meaning_207 : dk_at b_Tx_meaning 207 t_Tx_meaning_207 := dk_go 3 a_Tx_meaning_204 rfl
theorem a_Tx_meaning_209 : dk_at b_Tx_meaning 209 t_Tx_meaning_209 := dk_go 2 a_Tx_meaning_207 rfl
theorem a_Tx_meaning_212 : dk_at b_Tx_meaning 212 t_Tx_meaning_212 := dk_go 3 a_Tx_meaning_209 rfl
theorem a_Tx_meaning_213 : dk_at b_Tx_meaning 213 t_Tx_meaning_213 := dk_go 1 a_Tx_meaning_212 rfl
theorem a_Tx_meaning_216 : dk_at b_Tx_meaning 216 t_Tx_meaning_216 := dk_go 3 a_Tx_meaning_213 rfl
theorem a_Tx_meaning_219 : dk_at b_Tx_meaning 219 t_Tx_meaning_219 := dk_go 3 a_Tx_meaning_216 rfl
theorem a_Tx_meaning_222 : dk_at b_Tx_meaning 222 t_Tx_meaning_222 := dk_go 3 a_Tx_meaning_219 rfl
theorem a_Tx_meaning_224 : dk_at b_Tx_meaning 224 t_Tx_meaning_224 := dk_go 2 a_Tx_meaning_222 rfl
theorem a_Tx_meaning_227 : dk_at b_Tx_meaning 227 t_Tx_meaning_227 := dk_go 3 a_Tx_meaning_224 rfl
theorem a_Tx_meaning_228 : dk_at b_Tx_meaning 228 t_Tx_meaning_228 := dk_go 1 a_Tx_meaning_227 rfl
theorem a_Tx_meaning_231 : dk_at b_Tx_meaning 231 t_Tx_meaning_231 := dk_go 3 a_Tx_meaning_228 rfl
theorem a_Tx_meaning_234 : dk_at b_Tx_meaning 234 t_Tx_meaning_234 := dk_go 3 a_Tx_meaning_231 rfl
theorem a_Tx_meaning_237 : dk_at b_Tx_meaning 237 t_Tx_meaning_237 := dk_go 3 a_Tx_meaning_234 rfl
theorem a_Tx_meaning_239 : dk_at b_Tx_meaning 239 t_Tx_meaning_239 := dk_go 2 a_Tx_meaning_237 rfl
theorem a_Tx_meaning_242 : dk_at b_Tx_meaning 242 t_Tx_meaning_242 := dk_go 3 a_Tx_meaning_239 rfl
theorem a_Tx_meaning_243 : dk_at b_Tx_meaning 243 t_Tx_meaning_243 := dk_go 1 a_Tx_meaning_242 rfl
theorem a_Tx_meaning_246 : dk_at b_Tx_meaning 246 t_Tx_meaning_246 := dk_go 3 a_Tx_meaning_243 rfl
theorem a_Tx_meaning_249 : dk_at b_Tx_meaning 249 t_Tx_meaning_249 := dk_go 3 a_Tx_meaning_246 rfl
theorem a_Tx_meaning_252 : dk_at b_Tx_meaning 252 t_Tx_meaning_252 := dk_go 3 a_Tx_meaning_249 rfl
theorem a_Tx_meaning_254 : dk_at b_Tx_meaning 254 t_Tx_meaning_254 := dk_go 2 a_Tx_meaning_252 rfl
theorem a_Tx_meaning_257 : dk_at b_Tx_meaning 257 t_Tx_meaning_257 := dk_go 3 a_Tx_meaning_254 rfl
theorem a_Tx_meaning_258 : dk_at b_Tx_meaning 258 t_Tx_meaning_258 := dk_go 1 a_Tx_meaning_257 rfl
theorem a_Tx_meaning_259 : dk_at b_Tx_meaning 259 t_Tx_meaning_259 := dk_go 1 a_Tx_meaning_258 rfl
theorem a_Tx_meaning_260 : dk_at b_Tx_meaning 260 t_Tx_meaning_260 := dk_go 1 a_Tx_meaning_259 rfl
theorem a_Tx_meaning_263 : dk_at b_Tx_meaning 263 t_Tx_meaning_263 := dk_go 3 a_Tx_meaning_260 rfl
theorem a_Tx_meaning_266 : dk_at b_Tx_meaning 266 t_Tx_meaning_266 := dk_go 3 a_Tx_meaning_263 rfl
theorem a_Tx_meaning_269 : dk_at b_Tx_meaning 269 t_Tx_meaning_269 := dk_go 3 a_Tx_meaning_266 rfl
theorem a_Tx_meaning_271 : dk_at b_Tx_meaning 271 t_Tx_meaning_271 := dk_go 2 a_Tx_meaning_269 rfl
theorem a_Tx_meaning_274 : dk_at b_Tx_meaning 274 t_Tx_meaning_274 := dk_go 3 a_Tx_meaning_271 rfl
theorem a_Tx_meaning_275 : dk_at b_Tx_meaning 275 t_Tx_meaning_275 := dk_go 1 a_Tx_meaning_274 rfl
theorem a_Tx_meaning_278 : dk_at b_Tx_meaning 278 t_Tx_meaning_278 := dk_go 3 a_Tx_meaning_275 rfl
theorem a_Tx_meaning_281 : dk_at b_Tx_meaning 281 t_Tx_meaning_281 := dk_go 3 a_Tx_meaning_278 rfl
theorem a_Tx_meaning_284 : dk_at b_Tx_meaning 284 t_Tx_meaning_284 := dk_go 3 a_Tx_meaning_281 rfl
theorem a_Tx_meaning_286 : dk_at b_Tx_meaning 286 t_Tx_meaning_286 := dk_go 2 a_Tx_meaning_284 rfl
theorem a_Tx_meaning_289 : dk_at b_Tx_meaning 289 t_Tx_meaning_289 := dk_go 3 a_Tx_meaning_286 rfl
theorem a_Tx_meaning_290 : dk_at b_Tx_meaning 290 t_Tx_meaning_290 := dk_go 1 a_Tx_meaning_289 rfl
theorem a_Tx_meaning_293 : dk_at b_Tx_meaning 293 t_Tx_meaning_293 := dk_go 3 a_Tx_meaning_290 rfl
theorem a_Tx_meaning_296 : dk_at b_Tx_meaning 296 t_Tx_meaning_296 := dk_go 3 a_Tx_meaning_293 rfl
theorem a_Tx_meaning_299 : dk_at b_Tx_meaning 299 t_Tx_meaning_299 := dk_go 3 a_Tx_meaning_296 rfl
theorem a_Tx_meaning_301 : dk_at b_Tx_meaning 301 t_Tx_meaning_301 := dk_go 2 a_Tx_meaning_299 rfl
theorem a_Tx_meaning_304 : dk_at b_Tx_meaning 304 t_Tx_meaning_304 := dk_go 3 a_Tx_meaning_301 rfl
theorem a_Tx_meaning_305 : dk_at b_Tx_meaning 305 t_Tx_meaning_305 := dk_go 1 a_Tx_meaning_304 rfl
theorem a_Tx_meaning_308 : dk_at b_Tx_meaning 308 t_Tx_meaning_308 := dk_go 3 a_Tx_meaning_305 rfl
theorem a_Tx_meaning_311 : dk_at b_Tx_meaning 311 t_Tx_meaning_311 := dk_go 3 a_Tx_meaning_308 rfl
theorem a_Tx_meaning_314 : dk_at b_Tx_meaning 314 t_Tx_meaning_314 := dk_go 3 a_Tx_meaning_311 rfl
theorem a_Tx_meaning_316 : dk_at b_Tx_meaning 316 t_Tx_meaning_316 := dk_go 2 a_Tx_meaning_314 rfl
theorem a_Tx_meaning_319 : dk_at b_Tx_meaning 319 t_Tx_meaning_319 := dk_go 3 a_Tx_meaning_316 rfl
theorem a_Tx_meaning_320 : dk_at b_Tx_meaning 320 t_Tx_meaning_320 := dk_go 1 a_Tx_meaning_319 rfl
theorem a_Tx_meaning_323 : dk_at b_Tx_meaning 323 t_Tx_meaning_323 := dk_go 3 a_Tx_meaning_320 rfl
theorem a_Tx_meaning_326 : dk_at b_Tx_meaning 326 t_Tx_meaning_326 := dk_go 3 a_Tx_meaning_323 rfl
theorem a_Tx_meaning_329 : dk_at b_Tx_meaning 329 t_Tx_meaning_329 := dk_go 3 a_Tx_meaning_326 rfl
theorem a_Tx_meaning_331 : dk_at b_Tx_meaning 331 t_Tx_meaning_331 := dk_go 2 a_Tx_meaning_329 rfl
theorem a_Tx_meaning_334 : dk_at b_Tx_meaning 334 t_Tx_meaning_334 := dk_go 3 a_Tx_meaning_331 rfl
theorem a_Tx_meaning_335 : dk_at b_Tx_meaning 335 t_Tx_meaning_335 := dk_go 1 a_Tx_meaning_334 rfl
theorem a_Tx_meaning_338 : dk_at b_Tx_meaning 338 t_Tx_meaning_338 := dk_go 3 a_Tx_meaning_335 rfl
theorem a_Tx_meaning_341 : dk_at b_Tx_meaning 341 t_Tx_meaning_341 := dk_go 3 a_Tx_meaning_338 rfl
theorem a_Tx_meaning_344 : dk_at b_Tx_meaning 344 t_Tx_meaning_344 := dk_go 3 a_Tx_meaning_341 rfl
theorem a_Tx_meaning_346 : dk_at b_Tx_meaning 346 t_Tx_meaning_346 := dk_go 2 a_Tx_meaning_344 rfl
theorem a_Tx_meaning_349 : dk_at b_Tx_meaning 349 t_Tx_meaning_349 := dk_go 3 a_Tx_meaning_346 rfl
theorem a_Tx_meaning_350 : dk_at b_Tx_meaning 350 t_Tx_meaning_350 := dk_go 1 a_Tx_meaning_349 rfl
theorem a_Tx_meaning_353 : dk_at b_Tx_meaning 353 t_Tx_meaning_353 := dk_go 3 a_Tx_meaning_350 rfl
theorem a_Tx_meaning_356 : dk_at b_Tx_meaning 356 t_Tx_meaning_356 := dk_go 3 a_Tx_meaning_353 rfl
theorem a_Tx_meaning_359 : dk_at b_Tx_meaning 359 t_Tx_meaning_359 := dk_go 3 a_Tx_meaning_356 rfl
theorem a_Tx_meaning_361 : dk_at b_Tx_meaning 361 t_Tx_meaning_361 := dk_go 2 a_Tx_meaning_359 rfl
theorem a_Tx_meaning_364 : dk_at b_Tx_meaning 364 t_Tx_meaning_364 := dk_go 3 a_Tx_meaning_361 rfl
theorem a_Tx_meaning_365 : dk_at b_Tx_meaning 365 t_Tx_meaning_365 := dk_go 1 a_Tx_meaning_364 rfl
theorem a_Tx_meaning_368 : dk_at b_Tx_meaning 368 t_Tx_meaning_368 := dk_go 3 a_Tx_meaning_365 rfl
theorem a_Tx_meaning_371 : dk_at b_Tx_meaning 371 t_Tx_meaning_371 := dk_go 3 a_Tx_meaning_368 rfl
theorem a_Tx_meaning_374 : dk_at b_Tx_meaning 374 t_Tx_meaning_374 := dk_go 3 a_Tx_meaning_371 rfl
theorem a_Tx_meaning_376 : dk_at b_Tx_meaning 376 t_Tx_meaning_376 := dk_go 2 a_Tx_meaning_374 rfl
theorem a_Tx_meaning_379 : dk_at b_Tx_meaning 379 t_Tx_meaning_379 := dk_go 3 a_Tx_meaning_376 rfl
theorem a_Tx_meaning_380 : dk_at b_Tx_meaning 380 t_Tx_meaning_380 := dk_go 1 a_Tx_meaning_379 rfl
theorem a_Tx_meaning_383 : dk_at b_Tx_meaning 383 t_Tx_meaning_383 := dk_go 3 a_Tx_meaning_380 rfl
theorem a_Tx_meaning_386 : dk_at b_Tx_meaning 386 t_Tx_meaning_386 := dk_go 3 a_Tx_meaning_383 rfl
theorem a_Tx_meaning_389 : dk_at b_Tx_meaning 389 t_Tx_meaning_389 := dk_go 3 a_Tx_meaning_386 rfl
theorem a_Tx_meaning_391 : dk_at b_Tx_meaning 391 t_Tx_meaning_391 := dk_go 2 a_Tx_meaning_389 rfl
theorem a_Tx_meaning_394 : dk_at b_Tx_meaning 394 t_Tx_meaning_394 := dk_go 3 a_Tx_meaning_391 rfl
theorem a_Tx_meaning_395 : dk_at b_Tx_meaning 395 t_Tx_meaning_395 := dk_go 1 a_Tx_meaning_394 rfl
theorem a_Tx_meaning_396 : dk_at b_Tx_meaning 396 t_Tx_meaning_396 := dk_go 1 a_Tx_meaning_395 rfl
theorem a_Tx_meaning_397 : dk_at b_Tx_meaning 397 t_Tx_meaning_397 := dk_go 1 a_Tx_meaning_396 rfl
theorem a_Tx_meaning_398 : dk_at b_Tx_meaning 398 t_Tx_meaning_398 := dk_go 1 a_Tx_meaning_397 rfl
theorem a_Tx_meaning_401 : dk_at b_Tx_meaning 401 t_Tx_meaning_401 := dk_go 3 a_Tx_meaning_398 rfl
theorem a_Tx_meaning_402 : dk_at b_Tx_meaning 402 t_Tx_meaning_402 := dk_go 1 a_Tx_meaning_401 rfl
theorem a_Tx_meaning_405 : dk_at b_Tx_meaning 405 t_Tx_meaning_405 := dk_go 3 a_Tx_meaning_402 rfl
theorem a_Tx_meaning_406 : dk_at b_Tx_meaning 406 t_Tx_meaning_406 := dk_go 1 a_Tx_meaning_405 rfl
theorem a_Tx_meaning_407 : dk_at b_Tx_meaning 407 t_Tx_meaning_407 := dk_go 1 a_Tx_meaning_406 rfl
theorem a_Tx_meaning_410 : dk_at b_Tx_meaning 410 t_Tx_meaning_410 := dk_go 3 a_Tx_meaning_407 rfl
theorem a_Tx_meaning_411 : dk_at b_Tx_meaning 411 t_Tx_meaning_411 := dk_go 1 a_Tx_meaning_410 rfl
theorem a_Tx_meaning_414 : dk_at b_Tx_meaning 414 t_Tx_meaning_414 := dk_go 3 a_Tx_meaning_411 rfl
theorem a_Tx_meaning_415 : dk_at b_Tx_meaning 415 t_Tx_meaning_415 := dk_go 1 a_Tx_meaning_414 rfl
theorem d_Tx_meaning_0 : decode b_Tx_meaning 0 = .ok (.aload_n 0, 1) := dk_0 a_Tx_meaning_0 (dko_42 _)
theorem d_Tx_meaning_1 : decode b_Tx_meaning 1 = .ok (.ldc2_w 77, 3) := dk_U2 a_Tx_meaning_1 (dko_20 _) rfl
theorem d_Tx_meaning_4 : decode b_Tx_meaning 4 = .ok (.invokevirtual 79, 3) := dk_U2 a_Tx_meaning_4 (dko_182 _) rfl
theorem d_Tx_meaning_7 : decode b_Tx_meaning 7 = .ok (.ifCond .eq 8, 3) := dk_S2 a_Tx_meaning_7 (dko_153 _) (by decide +kernel)
theorem d_Tx_meaning_10 : decode b_Tx_meaning 10 = .ok (.bipush 10, 2) := dk_S1 a_Tx_meaning_10 (dko_16 _) (by decide +kernel)
theorem d_Tx_meaning_12 : decode b_Tx_meaning 12 = .ok (.goto 109, 3) := dk_S2 a_Tx_meaning_12 (dko_167 _) (by decide +kernel)
theorem d_Tx_meaning_15 : decode b_Tx_meaning 15 = .ok (.aload_n 0, 1) := dk_0 a_Tx_meaning_15 (dko_42 _)
theorem d_Tx_meaning_16 : decode b_Tx_meaning 16 = .ok (.ldc2_w 83, 3) := dk_U2 a_Tx_meaning_16 (dko_20 _) rfl
theorem d_Tx_meaning_19 : decode b_Tx_meaning 19 = .ok (.invokevirtual 79, 3) := dk_U2 a_Tx_meaning_19 (dko_182 _) rfl
theorem d_Tx_meaning_22 : decode b_Tx_meaning 22 = .ok (.ifCond .eq 8, 3) := dk_S2 a_Tx_meaning_22 (dko_153 _) (by decide +kernel)
theorem d_Tx_meaning_25 : decode b_Tx_meaning 25 = .ok (.bipush 11, 2) := dk_S1 a_Tx_meaning_25 (dko_16 _) (by decide +kernel)
theorem d_Tx_meaning_27 : decode b_Tx_meaning 27 = .ok (.goto 94, 3) := dk_S2 a_Tx_meaning_27 (dko_167 _) (by decide +kernel)
theorem d_Tx_meaning_30 : decode b_Tx_meaning 30 = .ok (.aload_n 0, 1) := dk_0 a_Tx_meaning_30 (dko_42 _)
theorem d_Tx_meaning_31 : decode b_Tx_meaning 31 = .ok (.ldc2_w 85, 3) := dk_U2 a_Tx_meaning_31 (dko_20 _) rfl
theorem d_Tx_meaning_34 : decode b_Tx_meaning 34 = .ok (.invokevirtual 79, 3) := dk_U2 a_Tx_meaning_34 (dko_182 _) rfl
theorem d_Tx_meaning_37 : decode b_Tx_meaning 37 = .ok (.ifCond .eq 8, 3) := dk_S2 a_Tx_meaning_37 (dko_153 _) (by decide +kernel)
theorem d_Tx_meaning_40 : decode b_Tx_meaning 40 = .ok (.bipush 12, 2) := dk_S1 a_Tx_meaning_40 (dko_16 _) (by decide +kernel)
theorem d_Tx_meaning_42 : decode b_Tx_meaning 42 = .ok (.goto 79, 3) := dk_S2 a_Tx_meaning_42 (dko_167 _) (by decide +kernel)
theorem d_Tx_meaning_45 : decode b_Tx_meaning 45 = .ok (.aload_n 0, 1) := dk_0 a_Tx_meaning_45 (dko_42 _)
theorem d_Tx_meaning_46 : decode b_Tx_meaning 46 = .ok (.ldc2_w 87, 3) := dk_U2 a_Tx_meaning_46 (dko_20 _) rfl
theorem d_Tx_meaning_49 : decode b_Tx_meaning 49 = .ok (.invokevirtual 79, 3) := dk_U2 a_Tx_meaning_49 (dko_182 _) rfl
theorem d_Tx_meaning_52 : decode b_Tx_meaning 52 = .ok (.ifCond .eq 8, 3) := dk_S2 a_Tx_meaning_52 (dko_153 _) (by decide +kernel)
theorem d_Tx_meaning_55 : decode b_Tx_meaning 55 = .ok (.bipush 13, 2) := dk_S1 a_Tx_meaning_55 (dko_16 _) (by decide +kernel)
theorem d_Tx_meaning_57 : decode b_Tx_meaning 57 = .ok (.goto 64, 3) := dk_S2 a_Tx_meaning_57 (dko_167 _) (by decide +kernel)
theorem d_Tx_meaning_60 : decode b_Tx_meaning 60 = .ok (.aload_n 0, 1) := dk_0 a_Tx_meaning_60 (dko_42 _)
theorem d_Tx_meaning_61 : decode b_Tx_meaning 61 = .ok (.ldc2_w 89, 3) := dk_U2 a_Tx_meaning_61 (dko_20 _) rfl
theorem d_Tx_meaning_64 : decode b_Tx_meaning 64 = .ok (.invokevirtual 79, 3) := dk_U2 a_Tx_meaning_64 (dko_182 _) rfl
theorem d_Tx_meaning_67 : decode b_Tx_meaning 67 = .ok (.ifCond .eq 8, 3) := dk_S2 a_Tx_meaning_67 (dko_153 _) (by decide +kernel)
theorem d_Tx_meaning_70 : decode b_Tx_meaning 70 = .ok (.bipush 14, 2) := dk_S1 a_Tx_meaning_70 (dko_16 _) (by decide +kernel)
theorem d_Tx_meaning_72 : decode b_Tx_meaning 72 = .ok (.goto 49, 3) := dk_S2 a_Tx_meaning_72 (dko_167 _) (by decide +kernel)
theorem d_Tx_meaning_75 : decode b_Tx_meaning 75 = .ok (.aload_n 0, 1) := dk_0 a_Tx_meaning_75 (dko_42 _)
theorem d_Tx_meaning_76 : decode b_Tx_meaning 76 = .ok (.ldc2_w 91, 3) := dk_U2 a_Tx_meaning_76 (dko_20 _) rfl
theorem d_Tx_meaning_79 : decode b_Tx_meaning 79 = .ok (.invokevirtual 79, 3) := dk_U2 a_Tx_meaning_79 (dko_182 _) rfl
theorem d_Tx_meaning_82 : decode b_Tx_meaning 82 = .ok (.ifCond .eq 8, 3) := dk_S2 a_Tx_meaning_82 (dko_153 _) (by decide +kernel)
theorem d_Tx_meaning_85 : decode b_Tx_meaning 85 = .ok (.bipush 15, 2) := dk_S1 a_Tx_meaning_85 (dko_16 _) (by decide +kernel)
theorem d_Tx_meaning_87 : decode b_Tx_meaning 87 = .ok (.goto 34, 3) := dk_S2 a_Tx_meaning_87 (dko_167 _) (by decide +kernel)
theorem d_Tx_meaning_90 : decode b_Tx_meaning 90 = .ok (.aload_n 0, 1) := dk_0 a_Tx_meaning_90 (dko_42 _)
theorem d_Tx_meaning_91 : decode b_Tx_meaning 91 = .ok (.ldc2_w 93, 3) := dk_U2 a_Tx_meaning_91 (dko_20 _) rfl
theorem d_Tx_meaning_94 : decode b_Tx_meaning 94 = .ok (.invokevirtual 79, 3) := dk_U2 a_Tx_meaning_94 (dko_182 _) rfl
theorem d_Tx_meaning_97 : decode b_Tx_meaning 97 = .ok (.ifCond .eq 8, 3) := dk_S2 a_Tx_meaning_97 (dko_153 _) (by decide +kernel)
theorem d_Tx_meaning_100 : decode b_Tx_meaning 100 = .ok (.bipush 16, 2) := dk_S1 a_Tx_meaning_100 (dko_16 _) (by decide +kernel)
theorem d_Tx_meaning_102 : decode b_Tx_meaning 102 = .ok (.goto 19, 3) := dk_S2 a_Tx_meaning_102 (dko_167 _) (by decide +kernel)
theorem d_Tx_meaning_105 : decode b_Tx_meaning 105 = .ok (.aload_n 0, 1) := dk_0 a_Tx_meaning_105 (dko_42 _)
theorem d_Tx_meaning_106 : decode b_Tx_meaning 106 = .ok (.ldc2_w 95, 3) := dk_U2 a_Tx_meaning_106 (dko_20 _) rfl
theorem d_Tx_meaning_109 : decode b_Tx_meaning 109 = .ok (.invokevirtual 79, 3) := dk_U2 a_Tx_meaning_109 (dko_182 _) rfl
theorem d_Tx_meaning_112 : decode b_Tx_meaning 112 = .ok (.ifCond .eq 8, 3) := dk_S2 a_Tx_meaning_112 (dko_153 _) (by decide +kernel)
theorem d_Tx_meaning_115 : decode b_Tx_meaning 115 = .ok (.bipush 17, 2) := dk_S1 a_Tx_meaning_115 (dko_16 _) (by decide +kernel)
theorem d_Tx_meaning_117 : decode b_Tx_meaning 117 = .ok (.goto 4, 3) := dk_S2 a_Tx_meaning_117 (dko_167 _) (by decide +kernel)
theorem d_Tx_meaning_120 : decode b_Tx_meaning 120 = .ok (.iconst (-1), 1) := dk_0 a_Tx_meaning_120 (dko_2 _)
theorem d_Tx_meaning_121 : decode b_Tx_meaning 121 = .ok (.istore_n 1, 1) := dk_0 a_Tx_meaning_121 (dko_60 _)
theorem d_Tx_meaning_122 : decode b_Tx_meaning 122 = .ok (.aload_n 0, 1) := dk_0 a_Tx_meaning_122 (dko_42 _)
theorem d_Tx_meaning_123 : decode b_Tx_meaning 123 = .ok (.ldc2_w 97, 3) := dk_U2 a_Tx_meaning_123 (dko_20 _) rfl
theorem d_Tx_meaning_126 : decode b_Tx_meaning 126 = .ok (.invokevirtual 79, 3) := dk_U2 a_Tx_meaning_126 (dko_182 _) rfl
theorem d_Tx_meaning_129 : decode b_Tx_meaning 129 = .ok (.ifCond .eq 8, 3) := dk_S2 a_Tx_meaning_129 (dko_153 _) (by decide +kernel)
theorem d_Tx_meaning_132 : decode b_Tx_meaning 132 = .ok (.bipush 18, 2) := dk_S1 a_Tx_meaning_132 (dko_16 _) (by decide +kernel)
theorem d_Tx_meaning_134 : decode b_Tx_meaning 134 = .ok (.goto 124, 3) := dk_S2 a_Tx_meaning_134 (dko_167 _) (by decide +kernel)
theorem d_Tx_meaning_137 : decode b_Tx_meaning 137 = .ok (.aload_n 0, 1) := dk_0 a_Tx_meaning_137 (dko_42 _)
theorem d_Tx_meaning_138 : decode b_Tx_meaning 138 = .ok (.ldc2_w 99, 3) := dk_U2 a_Tx_meaning_138 (dko_20 _) rfl
theorem d_Tx_meaning_141 : decode b_Tx_meaning 141 = .ok (.invokevirtual 79, 3) := dk_U2 a_Tx_meaning_141 (dko_182 _) rfl
theorem d_Tx_meaning_144 : decode b_Tx_meaning 144 = .ok (.ifCond .eq 8, 3) := dk_S2 a_Tx_meaning_144 (dko_153 _) (by decide +kernel)
theorem d_Tx_meaning_147 : decode b_Tx_meaning 147 = .ok (.bipush 19, 2) := dk_S1 a_Tx_meaning_147 (dko_16 _) (by decide +kernel)
theorem d_Tx_meaning_149 : decode b_Tx_meaning 149 = .ok (.goto 109, 3) := dk_S2 a_Tx_meaning_149 (dko_167 _) (by decide +kernel)
theorem d_Tx_meaning_152 : decode b_Tx_meaning 152 = .ok (.aload_n 0, 1) := dk_0 a_Tx_meaning_152 (dko_42 _)
theorem d_Tx_meaning_153 : decode b_Tx_meaning 153 = .ok (.ldc2_w 101, 3) := dk_U2 a_Tx_meaning_153 (dko_20 _) rfl
theorem d_Tx_meaning_156 : decode b_Tx_meaning 156 = .ok (.invokevirtual 79, 3) := dk_U2 a_Tx_meaning_156 (dko_182 _) rfl
theorem d_Tx_meaning_159 : decode b_Tx_meaning 159 = .ok (.ifCond .eq 8, 3) := dk_S2 a_Tx_meaning_159 (dko_153 _) (by decide +kernel)
theorem d_Tx_meaning_162 : decode b_Tx_meaning 162 = .ok (.bipush 20, 2) := dk_S1 a_Tx_meaning_162 (dko_16 _) (by decide +kernel)
theorem d_Tx_meaning_164 : decode b_Tx_meaning 164 = .ok (.goto 94, 3) := dk_S2 a_Tx_meaning_164 (dko_167 _) (by decide +kernel)
theorem d_Tx_meaning_167 : decode b_Tx_meaning 167 = .ok (.aload_n 0, 1) := dk_0 a_Tx_meaning_167 (dko_42 _)
theorem d_Tx_meaning_168 : decode b_Tx_meaning 168 = .ok (.ldc2_w 103, 3) := dk_U2 a_Tx_meaning_168 (dko_20 _) rfl
theorem d_Tx_meaning_171 : decode b_Tx_meaning 171 = .ok (.invokevirtual 79, 3) := dk_U2 a_Tx_meaning_171 (dko_182 _) rfl
theorem d_Tx_meaning_174 : decode b_Tx_meaning 174 = .ok (.ifCond .eq 8, 3) := dk_S2 a_Tx_meaning_174 (dko_153 _) (by decide +kernel)
theorem d_Tx_meaning_177 : decode b_Tx_meaning 177 = .ok (.bipush 21, 2) := dk_S1 a_Tx_meaning_177 (dko_16 _) (by decide +kernel)
theorem d_Tx_meaning_179 : decode b_Tx_meaning 179 = .ok (.goto 79, 3) := dk_S2 a_Tx_meaning_179 (dko_167 _) (by decide +kernel)
theorem d_Tx_meaning_182 : decode b_Tx_meaning 182 = .ok (.aload_n 0, 1) := dk_0 a_Tx_meaning_182 (dko_42 _)
theorem d_Tx_meaning_183 : decode b_Tx_meaning 183 = .ok (.ldc2_w 105, 3) := dk_U2 a_Tx_meaning_183 (dko_20 _) rfl
theorem d_Tx_meaning_186 : decode b_Tx_meaning 186 = .ok (.invokevirtual 79, 3) := dk_U2 a_Tx_meaning_186 (dko_182 _) rfl
theorem d_Tx_meaning_189 : decode b_Tx_meaning 189 = .ok (.ifCond .eq 8, 3) := dk_S2 a_Tx_meaning_189 (dko_153 _) (by decide +kernel)
theorem d_Tx_meaning_192 : decode b_Tx_meaning 192 = .ok (.bipush 22, 2) := dk_S1 a_Tx_meaning_192 (dko_16 _) (by decide +kernel)
theorem d_Tx_meaning_194 : decode b_Tx_meaning 194 = .ok (.goto 64, 3) := dk_S2 a_Tx_meaning_194 (dko_167 _) (by decide +kernel)
theorem d_Tx_meaning_197 : decode b_Tx_meaning 197 = .ok (.aload_n 0, 1) := dk_0 a_Tx_meaning_197 (dko_42 _)
theorem d_Tx_meaning_198 : decode b_Tx_meaning 198 = .ok (.ldc2_w 107, 3) := dk_U2 a_Tx_meaning_198 (dko_20 _) rfl
theorem d_Tx_meaning_201 : decode b_Tx_meaning 201 = .ok (.invokevirtual 79, 3) := dk_U2 a_Tx_meaning_201 (dko_182 _) rfl
theorem d_Tx_meaning_204 : decode b_Tx_meaning 204 = .ok (.ifCond .eq 8, 3) := dk_S2 a_Tx_meaning_204 (dko_153 _) (by decide +kernel)
theorem d_Tx_meaning_207 : decode b_Tx_meaning 207 = .ok (.bipush 24, 2) := dk_S1 a_Tx_meaning_207 (dko_16 _) (by decide +kernel)
theorem d_Tx_meaning_209 : decode b_Tx_meaning 209 = .ok (.goto 49, 3) := dk_S2 a_Tx_meaning_209 (dko_167 _) (by decide +kernel)
theorem d_Tx_meaning_212 : decode b_Tx_meaning 212 = .ok (.aload_n 0, 1) := dk_0 a_Tx_meaning_212 (dko_42 _)
theorem d_Tx_meaning_213 : decode b_Tx_meaning 213 = .ok (.ldc2_w 109, 3) := dk_U2 a_Tx_meaning_213 (dko_20 _) rfl
theorem d_Tx_meaning_216 : decode b_Tx_meaning 216 = .ok (.invokevirtual 79, 3) := dk_U2 a_Tx_meaning_216 (dko_182 _) rfl
theorem d_Tx_meaning_219 : decode b_Tx_meaning 219 = .ok (.ifCond .eq 8, 3) := dk_S2 a_Tx_meaning_219 (dko_153 _) (by decide +kernel)
theorem d_Tx_meaning_222 : decode b_Tx_meaning 222 = .ok (.bipush 30, 2) := dk_S1 a_Tx_meaning_222 (dko_16 _) (by decide +kernel)
theorem d_Tx_meaning_224 : decode b_Tx_meaning 224 = .ok (.goto 34, 3) := dk_S2 a_Tx_meaning_224 (dko_167 _) (by decide +kernel)
theorem d_Tx_meaning_227 : decode b_Tx_meaning 227 = .ok (.aload_n 0, 1) := dk_0 a_Tx_meaning_227 (dko_42 _)
theorem d_Tx_meaning_228 : decode b_Tx_meaning 228 = .ok (.ldc2_w 111, 3) := dk_U2 a_Tx_meaning_228 (dko_20 _) rfl
theorem d_Tx_meaning_231 : decode b_Tx_meaning 231 = .ok (.invokevirtual 79, 3) := dk_U2 a_Tx_meaning_231 (dko_182 _) rfl
theorem d_Tx_meaning_234 : decode b_Tx_meaning 234 = .ok (.ifCond .eq 8, 3) := dk_S2 a_Tx_meaning_234 (dko_153 _) (by decide +kernel)
theorem d_Tx_meaning_237 : decode b_Tx_meaning 237 = .ok (.bipush 31, 2) := dk_S1 a_Tx_meaning_237 (dko_16 _) (by decide +kernel)
theorem d_Tx_meaning_239 : decode b_Tx_meaning 239 = .ok (.goto 19, 3) := dk_S2 a_Tx_meaning_239 (dko_167 _) (by decide +kernel)
theorem d_Tx_meaning_242 : decode b_Tx_meaning 242 = .ok (.aload_n 0, 1) := dk_0 a_Tx_meaning_242 (dko_42 _)
theorem d_Tx_meaning_243 : decode b_Tx_meaning 243 = .ok (.ldc2_w 113, 3) := dk_U2 a_Tx_meaning_243 (dko_20 _) rfl
theorem d_Tx_meaning_246 : decode b_Tx_meaning 246 = .ok (.invokevirtual 79, 3) := dk_U2 a_Tx_meaning_246 (dko_182 _) rfl
theorem d_Tx_meaning_249 : decode b_Tx_meaning 249 = .ok (.ifCond .eq 8, 3) := dk_S2 a_Tx_meaning_249 (dko_153 _) (by decide +kernel)
theorem d_Tx_meaning_252 : decode b_Tx_meaning 252 = .ok (.bipush 32, 2) := dk_S1 a_Tx_meaning_252 (dko_16 _) (by decide +kernel)
theorem d_Tx_meaning_254 : decode b_Tx_meaning 254 = .ok (.goto 4, 3) := dk_S2 a_Tx_meaning_254 (dko_167 _) (by decide +kernel)
theorem d_Tx_meaning_257 : decode b_Tx_meaning 257 = .ok (.iconst (-1), 1) := dk_0 a_Tx_meaning_257 (dko_2 _)
theorem d_Tx_meaning_258 : decode b_Tx_meaning 258 = .ok (.istore_n 2, 1) := dk_0 a_Tx_meaning_258 (dko_61 _)
theorem d_Tx_meaning_259 : decode b_Tx_meaning 259 = .ok (.aload_n 0, 1) := dk_0 a_Tx_meaning_259 (dko_42 _)
theorem d_Tx_meaning_260 : decode b_Tx_meaning 260 = .ok (.ldc2_w 115, 3) := dk_U2 a_Tx_meaning_260 (dko_20 _) rfl
theorem d_Tx_meaning_263 : decode b_Tx_meaning 263 = .ok (.invokevirtual 79, 3) := dk_U2 a_Tx_meaning_263 (dko_182 _) rfl
theorem d_Tx_meaning_266 : decode b_Tx_meaning 266 = .ok (.ifCond .eq 8, 3) := dk_S2 a_Tx_meaning_266 (dko_153 _) (by decide +kernel)
theorem d_Tx_meaning_269 : decode b_Tx_meaning 269 = .ok (.bipush 33, 2) := dk_S1 a_Tx_meaning_269 (dko_16 _) (by decide +kernel)
theorem d_Tx_meaning_271 : decode b_Tx_meaning 271 = .ok (.goto 124, 3) := dk_S2 a_Tx_meaning_271 (dko_167 _) (by decide +kernel)
theorem d_Tx_meaning_274 : decode b_Tx_meaning 274 = .ok (.aload_n 0, 1) := dk_0 a_Tx_meaning_274 (dko_42 _)
theorem d_Tx_meaning_275 : decode b_Tx_meaning 275 = .ok (.ldc2_w 117, 3) := dk_U2 a_Tx_meaning_275 (dko_20 _) rfl
theorem d_Tx_meaning_278 : decode b_Tx_meaning 278 = .ok (.invokevirtual 79, 3) := dk_U2 a_Tx_meaning_278 (dko_182 _) rfl
theorem d_Tx_meaning_281 : decode b_Tx_meaning 281 = .ok (.ifCond .eq 8, 3) := dk_S2 a_Tx_meaning_281 (dko_153 _) (by decide +kernel)
theorem d_Tx_meaning_284 : decode b_Tx_meaning 284 = .ok (.bipush 34, 2) := dk_S1 a_Tx_meaning_284 (dko_16 _) (by decide +kernel)
theorem d_Tx_meaning_286 : decode b_Tx_meaning 286 = .ok (.goto 109, 3) := dk_S2 a_Tx_meaning_286 (dko_167 _) (by decide +kernel)
theorem d_Tx_meaning_289 : decode b_Tx_meaning 289 = .ok (.aload_n 0, 1) := dk_0 a_Tx_meaning_289 (dko_42 _)
theorem d_Tx_meaning_290 : decode b_Tx_meaning 290 = .ok (.ldc2_w 119, 3) := dk_U2 a_Tx_meaning_290 (dko_20 _) rfl
theorem d_Tx_meaning_293 : decode b_Tx_meaning 293 = .ok (.invokevirtual 79, 3) := dk_U2 a_Tx_meaning_293 (dko_182 _) rfl
theorem d_Tx_meaning_296 : decode b_Tx_meaning 296 = .ok (.ifCond .eq 8, 3) := dk_S2 a_Tx_meaning_296 (dko_153 _) (by decide +kernel)
theorem d_Tx_meaning_299 : decode b_Tx_meaning 299 = .ok (.bipush 40, 2) := dk_S1 a_Tx_meaning_299 (dko_16 _) (by decide +kernel)
theorem d_Tx_meaning_301 : decode b_Tx_meaning 301 = .ok (.goto 94, 3) := dk_S2 a_Tx_meaning_301 (dko_167 _) (by decide +kernel)
theorem d_Tx_meaning_304 : decode b_Tx_meaning 304 = .ok (.aload_n 0, 1) := dk_0 a_Tx_meaning_304 (dko_42 _)
theorem d_Tx_meaning_305 : decode b_Tx_meaning 305 = .ok (.ldc2_w 121, 3) := dk_U2 a_Tx_meaning_305 (dko_20 _) rfl
theorem d_Tx_meaning_308 : decode b_Tx_meaning 308 = .ok (.invokevirtual 79, 3) := dk_U2 a_Tx_meaning_308 (dko_182 _) rfl
theorem d_Tx_meaning_311 : decode b_Tx_meaning 311 = .ok (.ifCond .eq 8, 3) := dk_S2 a_Tx_meaning_311 (dko_153 _) (by decide +kernel)
theorem d_Tx_meaning_314 : decode b_Tx_meaning 314 = .ok (.bipush 41, 2) := dk_S1 a_Tx_meaning_314 (dko_16 _) (by decide +kernel)
theorem d_Tx_meaning_316 : decode b_Tx_meaning 316 = .ok (.goto 79, 3) := dk_S2 a_Tx_meaning_316 (dko_167 _) (by decide +kernel)
theorem d_Tx_meaning_319 : decode b_Tx_meaning 319 = .ok (.aload_n 0, 1) := dk_0 a_Tx_meaning_319 (dko_42 _)
theorem d_Tx_meaning_320 : decode b_Tx_meaning 320 = .ok (.ldc2_w 123, 3) := dk_U2 a_Tx_meaning_320 (dko_20 _) rfl
theorem d_Tx_meaning_323 : decode b_Tx_meaning 323 = .ok (.invokevirtual 79, 3) := dk_U2 a_Tx_meaning_323 (dko_182 _) rfl
theorem d_Tx_meaning_326 : decode b_Tx_meaning 326 = .ok (.ifCond .eq 8, 3) := dk_S2 a_Tx_meaning_326 (dko_153 _) (by decide +kernel)
theorem d_Tx_meaning_329 : decode b_Tx_meaning 329 = .ok (.bipush 42, 2) := dk_S1 a_Tx_meaning_329 (dko_16 _) (by decide +kernel)
theorem d_Tx_meaning_331 : decode b_Tx_meaning 331 = .ok (.goto 64, 3) := dk_S2 a_Tx_meaning_331 (dko_167 _) (by decide +kernel)
theorem d_Tx_meaning_334 : decode b_Tx_meaning 334 = .ok (.aload_n 0, 1) := dk_0 a_Tx_meaning_334 (dko_42 _)
theorem d_Tx_meaning_335 : decode b_Tx_meaning 335 = .ok (.ldc2_w 125, 3) := dk_U2 a_Tx_meaning_335 (dko_20 _) rfl
theorem d_Tx_meaning_338 : decode b_Tx_meaning 338 = .ok (.invokevirtual 79, 3) := dk_U2 a_Tx_meaning_338 (dko_182 _) rfl
theorem d_Tx_meaning_341 : decode b_Tx_meaning 341 = .ok (.ifCond .eq 8, 3) := dk_S2 a_Tx_meaning_341 (dko_153 _) (by decide +kernel)
theorem d_Tx_meaning_344 : decode b_Tx_meaning 344 = .ok (.bipush 43, 2) := dk_S1 a_Tx_meaning_344 (dko_16 _) (by decide +kernel)
theorem d_Tx_meaning_346 : decode b_Tx_meaning 346 = .ok (.goto 49, 3) := dk_S2 a_Tx_meaning_346 (dko_167 _) (by decide +kernel)
theorem d_Tx_meaning_349 : decode b_Tx_meaning 349 = .ok (.aload_n 0, 1) := dk_0 a_Tx_meaning_349 (dko_42 _)
theorem d_Tx_meaning_350 : decode b_Tx_meaning 350 = .ok (.ldc2_w 127, 3) := dk_U2 a_Tx_meaning_350 (dko_20 _) rfl
theorem d_Tx_meaning_353 : decode b_Tx_meaning 353 = .ok (.invokevirtual 79, 3) := dk_U2 a_Tx_meaning_353 (dko_182 _) rfl
theorem d_Tx_meaning_356 : decode b_Tx_meaning 356 = .ok (.ifCond .eq 8, 3) := dk_S2 a_Tx_meaning_356 (dko_153 _) (by decide +kernel)
theorem d_Tx_meaning_359 : decode b_Tx_meaning 359 = .ok (.bipush 44, 2) := dk_S1 a_Tx_meaning_359 (dko_16 _) (by decide +kernel)
theorem d_Tx_meaning_361 : decode b_Tx_meaning 361 = .ok (.goto 34, 3) := dk_S2 a_Tx_meaning_361 (dko_167 _) (by decide +kernel)
theorem d_Tx_meaning_364 : decode b_Tx_meaning 364 = .ok (.aload_n 0, 1) := dk_0 a_Tx_meaning_364 (dko_42 _)
theorem d_Tx_meaning_365 : decode b_Tx_meaning 365 = .ok (.ldc2_w 129, 3) := dk_U2 a_Tx_meaning_365 (dko_20 _) rfl
theorem d_Tx_meaning_368 : decode b_Tx_meaning 368 = .ok (.invokevirtual 79, 3) := dk_U2 a_Tx_meaning_368 (dko_182 _) rfl
theorem d_Tx_meaning_371 : decode b_Tx_meaning 371 = .ok (.ifCond .eq 8, 3) := dk_S2 a_Tx_meaning_371 (dko_153 _) (by decide +kernel)
theorem d_Tx_meaning_374 : decode b_Tx_meaning 374 = .ok (.bipush 45, 2) := dk_S1 a_Tx_meaning_374 (dko_16 _) (by decide +kernel)
theorem d_Tx_meaning_376 : decode b_Tx_meaning 376 = .ok (.goto 19, 3) := dk_S2 a_Tx_meaning_376 (dko_167 _) (by decide +kernel)
theorem d_Tx_meaning_379 : decode b_Tx_meaning 379 = .ok (.aload_n 0, 1) := dk_0 a_Tx_meaning_379 (dko_42 _)
theorem d_Tx_meaning_380 : decode b_Tx_meaning 380 = .ok (.ldc2_w 131, 3) := dk_U2 a_Tx_meaning_380 (dko_20 _) rfl
theorem d_Tx_meaning_383 : decode b_Tx_meaning 383 = .ok (.invokevirtual 79, 3) := dk_U2 a_Tx_meaning_383 (dko_182 _) rfl
theorem d_Tx_meaning_386 : decode b_Tx_meaning 386 = .ok (.ifCond .eq 8, 3) := dk_S2 a_Tx_meaning_386 (dko_153 _) (by decide +kernel)
theorem d_Tx_meaning_389 : decode b_Tx_meaning 389 = .ok (.bipush 46, 2) := dk_S1 a_Tx_meaning_389 (dko_16 _) (by decide +kernel)
theorem d_Tx_meaning_391 : decode b_Tx_meaning 391 = .ok (.goto 4, 3) := dk_S2 a_Tx_meaning_391 (dko_167 _) (by decide +kernel)
theorem d_Tx_meaning_394 : decode b_Tx_meaning 394 = .ok (.iconst (-1), 1) := dk_0 a_Tx_meaning_394 (dko_2 _)
theorem d_Tx_meaning_395 : decode b_Tx_meaning 395 = .ok (.istore_n 3, 1) := dk_0 a_Tx_meaning_395 (dko_62 _)
theorem d_Tx_meaning_396 : decode b_Tx_meaning 396 = .ok (.iload_n 1, 1) := dk_0 a_Tx_meaning_396 (dko_27 _)
theorem d_Tx_meaning_397 : decode b_Tx_meaning 397 = .ok (.iconst (-1), 1) := dk_0 a_Tx_meaning_397 (dko_2 _)
theorem d_Tx_meaning_398 : decode b_Tx_meaning 398 = .ok (.if_icmp .eq 7, 3) := dk_S2 a_Tx_meaning_398 (dko_159 _) (by decide +kernel)
theorem d_Tx_meaning_401 : decode b_Tx_meaning 401 = .ok (.iload_n 1, 1) := dk_0 a_Tx_meaning_401 (dko_27 _)
theorem d_Tx_meaning_402 : decode b_Tx_meaning 402 = .ok (.goto 13, 3) := dk_S2 a_Tx_meaning_402 (dko_167 _) (by decide +kernel)
theorem d_Tx_meaning_405 : decode b_Tx_meaning 405 = .ok (.iload_n 2, 1) := dk_0 a_Tx_meaning_405 (dko_28 _)
theorem d_Tx_meaning_406 : decode b_Tx_meaning 406 = .ok (.iconst (-1), 1) := dk_0 a_Tx_meaning_406 (dko_2 _)
theorem d_Tx_meaning_407 : decode b_Tx_meaning 407 = .ok (.if_icmp .eq 7, 3) := dk_S2 a_Tx_meaning_407 (dko_159 _) (by decide +kernel)
theorem d_Tx_meaning_410 : decode b_Tx_meaning 410 = .ok (.iload_n 2, 1) := dk_0 a_Tx_meaning_410 (dko_28 _)
theorem d_Tx_meaning_411 : decode b_Tx_meaning 411 = .ok (.goto 4, 3) := dk_S2 a_Tx_meaning_411 (dko_167 _) (by decide +kernel)
theorem d_Tx_meaning_414 : decode b_Tx_meaning 414 = .ok (.iload_n 3, 1) := dk_0 a_Tx_meaning_414 (dko_29 _)
theorem d_Tx_meaning_415 : decode b_Tx_meaning 415 = .ok (.ireturn, 1) := dk_0 a_Tx_meaning_415 (dko_172 _)
set_option maxHeartbeats 4000000 in
set_option maxRecDepth 100000 in
theorem ok_Tx_meaning (pc : Nat) : OpS mt mi_Tx_meaning pc (cs_Tx_meaning pc) := (os_n (os_n (os_n (os_n (os_n (os_n (os_n (os_l (so_aload_n d_Tx_meaning_0 rfl)) (os_l (so_ldc2 mw_2208 d_Tx_meaning_1))) (os_n (os_l (so_callV (iv := mi_Tx_is) rfl rfl rfl mw_2209 mw_2211 sl_115 mw_19 mw_2212 ⟨by decide +kernel, by decide +kernel, by decide +kernel⟩ (by decide) d_Tx_meaning_4)) (os_n (os_l (so_ifeq d_Tx_meaning_7 (by decide))) (os_l (so_bipush d_Tx_meaning_10 (by decide)))))) (os_n (os_n (os_l (so_goto d_Tx_meaning_12 (by decide))) (os_l (so_aload_n d_Tx_meaning_15 rfl))) (os_n (os_l (so_ldc2 mw_2214 d_Tx_meaning_16)) (os_n (os_l (so_callV (iv := mi_Tx_is) rfl rfl rfl mw_2209 mw_2211 sl_115 mw_19 mw_2212 ⟨by decide +kernel, by decide +kernel, by decide +kernel⟩ (by decide) d_Tx_meaning_19)) (os_l (so_ifeq d_Tx_meaning_22 (by decide))))))) (os_n (os_n (os_n (os_l (so_bipush d_Tx_meaning_25 (by decide))) (os_l (so_goto d_Tx_meaning_27 (by decide)))) (os_n (os_l (so_aload_n d_Tx_meaning_30 rfl)) (os_n (os_l (so_ldc2 mw_2215 d_Tx_meaning_31)) (os_l (so_callV (iv := mi_Tx_is) rfl rfl rfl mw_2209 mw_2211 sl_115 mw_19 mw_2212 ⟨by decide +kernel, by decide +kernel, by decide +kernel⟩ (by decide) d_Tx_meaning_34))))) (os_n (os_n (os_l (so_ifeq d_Tx_meaning_37 (by decide))) (os_n (os_l (so_bipush d_Tx_meaning_40 (by decide))) (os_l (so_goto d_Tx_meaning_42 (by decide))))) (os_n (os_l (so_aload_n d_Tx_meaning_45 rfl)) (os_n (os_l (so_ldc2 mw_2216 d_Tx_meaning_46)) (os_l (so_callV (iv := mi_Tx_is) rfl rfl rfl mw_2209 mw_2211 sl_115 mw_19 mw_2212 ⟨by decide +kernel, by decide +kernel, by decide +kernel⟩ (by decide) d_Tx_meaning_49))))))) (os_n (os_n (os_n (os_n (os_l (so_ifeq d_Tx_meaning_52 (by decide))) (os_l (so_bipush d_Tx_meaning_55 (by decide)))) (os_n (os_l (so_goto d_Tx_meaning_57 (by decide))) (os_n (os_l (so_aload_n d_Tx_meaning_60 rfl)) (os_l (so_ldc2 mw_2217 d_Tx_meaning_61))))) (os_n (os_n (os_l (so_callV (iv := mi_Tx_is) rfl rfl rfl mw_2209 mw_2211 sl_115 mw_19 mw_2212 ⟨by decide +kernel, by decide +kernel, by decide +kernel⟩ (by decide) d_Tx_meaning_64)) (os_n (os_l (so_ifeq d_Tx_meaning_67 (by decide))) (os_l (so_bipush d_Tx_meaning_70 (by decide))))) (os_n (os_l (so_goto d_Tx_meaning_72 (by decide))) (os_n (os_l (so_aload_n d_Tx_meaning_75 rfl)) (os_l (so_ldc2 mw_2218 d_Tx_meaning_76)))))) (os_n (os_n (os_n (os_l (so_callV (iv := mi_Tx_is) rfl rfl rfl mw_2209 mw_2211 sl_115 mw_19 mw_2212 ⟨by decide +kernel, by decide +kernel, by decide +kernel⟩ (by decide) d_Tx_meaning_79)) (os_l (so_ifeq d_Tx_meaning_82 (by decide)))) (os_n (os_l (so_bipush d_Tx_meaning_85 (by decide))) (os_n (os_l (so_goto d_Tx_meaning_87 (by decide))) (os_l (so_aload_n d_Tx_meaning_90 rfl))))) (os_n (os_n (os_l (so_ldc2 mw_2219 d_Tx_meaning_91)) (os_n (os_l (so_callV (iv := mi_Tx_is) rfl rfl rfl mw_2209 mw_2211 sl_115 mw_19 mw_2212 ⟨by decide +kernel, by decide +kernel, by decide +kernel⟩ (by decide) d_Tx_meaning_94)) (os_l (so_ifeq d_Tx_meaning_97 (by decide))))) (os_n (os_l (so_bipush d_Tx_meaning_100 (by decide))) (os_n (os_l (so_goto d_Tx_meaning_102 (by decide))) (os_l (so_aload_n d_Tx_meaning_105 rfl)))))))) (os_n (os_n (os_n (os_n (os_n (os_l (so_ldc2 mw_2220 d_Tx_meaning_106)) (os_l (so_callV (iv := mi_Tx_is) rfl rfl rfl mw_2209 mw_2211 sl_115 mw_19 mw_2212 ⟨by decide +kernel, by decide +kernel, by decide +kernel⟩ (by decide) d_Tx_meaning_109))) (os_n (os_l (so_ifeq d_Tx_meaning_112 (by decide))) (os_n (os_l (so_bipush d_Tx_meaning_115 (by decide))) (os_l (so_goto d_Tx_meaning_117 (by decide)))))) (os_n (os_n (os_l (so_iconst d_Tx_meaning_120 (by decide))) (os_n (os_l (so_istore_n d_Tx_meaning_121 rfl (by decide))) (os_l (so_aload_n d_Tx_meaning_122 rfl)))) (os_n (os_l (so_ldc2 mw_2221 d_Tx_meaning_123)) (os_n (os_l (so_callV (iv := mi_Tx_is) rfl rfl rfl mw_2209 mw_2211 sl_115 mw_19 mw_2212 ⟨by decide +kernel, by decide +kernel, by decide +kernel⟩ (by decide) d_Tx_meaning_126)) (os_l (so_ifeq d_Tx_meaning_129 (by decide))))))) (os_n (os_n (os_n (os_l (so_bipush d_Tx_meaning_132 (by decide))) (os_l (so_goto d_Tx_meaning_134 (by decide)))) (os_n (os_l (so_aload_n d_Tx_meaning_137 rfl)) (os_n (os_l (so_ldc2 mw_2222 d_Tx_meaning_138)) (os_l (so_callV (iv := mi_Tx_is) rfl rfl rfl mw_2209 mw_2211 sl_115 mw_19 mw_2212 ⟨by decide +kernel, by decide +kernel, by decide +kernel⟩ (by decide) d_Tx_meaning_141))))) (os_n (os_n (os_l (so_ifeq d_Tx_meaning_144 (by decide))) (os_n (os_l (so_bipush d_Tx_meaning_147 (by decide))) (os_l (so_goto d_Tx_meaning_149 (by decide))))) (os_n (os_l (so_aload_n d_Tx_meaning_152 rfl)) (os_n (os_l (so_ldc2 mw_2223 d_Tx_meaning_153)) (os_l (so_callV (iv := mi_Tx_is) rfl rfl rfl mw_2209 mw_2211 sl_115 mw_19 mw_2212 ⟨by decide +kernel, by decide +kernel, by decide +kernel⟩ (by decide) d_Tx_meaning_156))))))) (os_n (os_n (os_n (os_n (os_l (so_ifeq d_Tx_meaning_159 (by decide))) (os_l (so_bipush d_Tx_meaning_162 (by decide)))) (os_n (os_l (so_goto d_Tx_meaning_164 (by decide))) (os_n (os_l (so_aload_n d_Tx_meaning_167 rfl)) (os_l (so_ldc2 mw_2224 d_Tx_meaning_168))))) (os_n (os_n (os_l (so_callV (iv := mi_Tx_is) rfl rfl rfl mw_2209 mw_2211 sl_115 mw_19 mw_2212 ⟨by decide +kernel, by decide +kernel, by decide +kernel⟩ (by decide) d_Tx_meaning_171)) (os_n (os_l (so_ifeq d_Tx_meaning_174 (by decide))) (os_l (so_bipush d_Tx_meaning_177 (by decide))))) (os_n (os_l (so_goto d_Tx_meaning_179 (by decide))) (os_n (os_l (so_aload_n d_Tx_meaning_182 rfl)) (os_l (so_ldc2 mw_2225 d_Tx_meaning_183)))))) (os_n (os_n (os_n (os_l (so_callV (iv := mi_Tx_is) rfl rfl rfl mw_2209 mw_2211 sl_115 mw_19 mw_2212 ⟨by decide +kernel, by decide +kernel, by decide +kernel⟩ (by decide) d_Tx_meaning_186)) (os_l (so_ifeq d_Tx_meaning_189 (by decide)))) (os_n (os_l (so_bipush d_Tx_meaning_192 (by decide))) (os_n (os_l (so_goto d_Tx_meaning_194 (by decide))) (os_l (so_aload_n d_Tx_meaning_197 rfl))))) (os_n (os_n (os_l (so_ldc2 mw_2226 d_Tx_meaning_198)) (os_n (os_l (so_callV (iv := mi_Tx_is) rfl rfl rfl mw_2209 mw_2211 sl_115 mw_19 mw_2212 ⟨by decide +kernel, by decide +kernel, by decide +kernel⟩ (by decide) d_Tx_meaning_201)) (os_l (so_ifeq d_Tx_meaning_204 (by decide))))) (os_n (os_l (so_bipush d_Tx_meaning_207 (by decide))) (os_n (os_l (so_goto d_Tx_meaning_209 (by decide))) (os_l (so_aload_n d_Tx_meaning_212 rfl))))))))) (os_n (os_n (os_n (os_n (os_n (os_n (os_l (so_ldc2 mw_2227 d_Tx_meaning_213)) (os_l (so_callV (iv := mi_Tx_is) rfl rfl rfl mw_2209 mw_2211 sl_115 mw_19 mw_2212 ⟨by decide +kernel, by decide +kernel, by decide +kernel⟩ (by decide) d_Tx_meaning_216))) (os_n (os_l (so_ifeq d_Tx_meaning_219 (by decide))) (os_n (os_l (so_bipush d_Tx_meaning_222 (by decide))) (os_l (so_goto d_Tx_meaning_224 (by decide)))))) (os_n (os_n (os_l (so_aload_n d_Tx_meaning_227 rfl)) (os_l (so_ldc2 mw_2228 d_Tx_meaning_228))) (os_n (os_l (so_callV (iv := mi_Tx_is) rfl rfl rfl mw_2209 mw_2211 sl_115 mw_19 mw_2212 ⟨by decide +kernel, by decide +kernel, by decide +kernel⟩ (by decide) d_Tx_meaning_231)) (os_n (os_l (so_ifeq d_Tx_meaning_234 (by decide))) (os_l (so_bipush d_Tx_meaning_237 (by decide))))))) (os_n (os_n (os_n (os_l (so_goto d_Tx_meaning_239 (by decide))) (os_l (so_aload_n d_Tx_meaning_242 rfl))) (os_n (os_l (so_ldc2 mw_2229 d_Tx_meaning_243)) (os_n (os_l (so_callV (iv := mi_Tx_is) rfl rfl rfl mw_2209 mw_2211 sl_115 mw_19 mw_2212 ⟨by decide +kernel, by decide +kernel, by decide +kernel⟩ (by decide) d_Tx_meaning_246)) (os_l (so_ifeq d_Tx_meaning_249 (by decide)))))) (os_n (os_n (os_l (so_bipush d_Tx_meaning_252 (by decide))) (os_n (os_l (so_goto d_Tx_meaning_254 (by decide))) (os_l (so_iconst d_Tx_meaning_257 (by decide))))) (os_n (os_l (so_istore_n d_Tx_meaning_258 rfl (by decide))) (os_n (os_l (so_aload_n d_Tx_meaning_259 rfl)) (os_l (so_ldc2 mw_2230 d_Tx_meaning_260))))))) (os_n (os_n (os_n (os_n (os_l (so_callV (iv := mi_Tx_is) rfl rfl rfl mw_2209 mw_2211 sl_115 mw_19 mw_2212 ⟨by decide +kernel, by decide +kernel, by decide +kernel⟩ (by decide) d_Tx_meaning_263)) (os_l (so_ifeq d_Tx_meaning_266 (by decide)))) (os_n (os_l (so_bipush d_Tx_meaning_269 (by decide))) (os_n (os_l (so_goto d_Tx_meaning_271 (by decide))) (os_l (so_aload_n d_Tx_meaning_274 rfl))))) (os_n (os_n (os_l (so_ldc2 mw_2231 d_Tx_meaning_275)) (os_n (os_l (so_callV (iv := mi_Tx_is) rfl rfl rfl mw_2209 mw_2211 sl_115 mw_19 mw_2212 ⟨by decide +kernel, by decide +kernel, by decide +kernel⟩ (by decide) d_Tx_meaning_278)) (os_l (so_ifeq d_Tx_meaning_281 (by decide))))) (os_n (os_l (so_bipush d_Tx_meaning_284 (by decide))) (os_n (os_l (so_goto d_Tx_meaning_286 (by decide))) (os_l (so_aload_n d_Tx_meaning_289 rfl)))))) (os_n (os_n (os_n (os_l (so_ldc2 mw_2232 d_Tx_meaning_290)) (os_l (so_callV (iv := mi_Tx_is) rfl rfl rfl mw_2209 mw_2211 sl_115 mw_19 mw_2212 ⟨by decide +kernel, by decide +kernel, by decide +kernel⟩ (by decide) d_Tx_meaning_293))) (os_n (os_l (so_ifeq d_Tx_meaning_296 (by decide))) (os_n (os_l (so_bipush d_Tx_meaning_299 (by decide))) (os_l (so_goto d_Tx_meaning_301 (by decide)))))) (os_n (os_n (os_l (so_aload_n d_Tx_meaning_304 rfl)) (os_n (os_l (so_ldc2 mw_2233 d_Tx_meaning_305)) (os_l (so_callV (iv := mi_Tx_is) rfl rfl rfl mw_2209 mw_2211 sl_115 mw_19 mw_2212 ⟨by decide +kernel, by decide +kernel, by decide +kernel⟩ (by decide) d_Tx_meaning_308)))) (os_n (os_l (so_ifeq d_Tx_meaning_311 (by decide))) (os_n (os_l (so_bipush d_Tx_meaning_314 (by decide))) (os_l (so_goto d_Tx_meaning_316 (by decide))))))))) (os_n (os_n (os_n (os_n (os_n (os_l (so_aload_n d_Tx_meaning_319 rfl)) (os_l (so_ldc2 mw_2234 d_Tx_meaning_320))) (os_n (os_l (so_callV (iv := mi_Tx_is) rfl rfl rfl mw_2209 mw_2211 sl_115 mw_19 mw_2212 ⟨by decide +kernel, by decide +kernel, by decide +kernel⟩ (by decide) d_Tx_meaning_323)) (os_n (os_l (so_ifeq d_Tx_meaning_326 (by decide))) (os_l (so_bipush d_Tx_meaning_329 (by decide)))))) (os_n (os_n (os_l (so_goto d_Tx_meaning_331 (by decide))) (os_n (os_l (so_aload_n d_Tx_meaning_334 rfl)) (os_l (so_ldc2 mw_2235 d_Tx_meaning_335)))) (os_n (os_l (so_callV (iv := mi_Tx_is) rfl rfl rfl mw_2209 mw_2211 sl_115 mw_19 mw_2212 ⟨by decide +kernel, by decide +kernel, by decide +kernel⟩ (by decide) d_Tx_meaning_338)) (os_n (os_l (so_ifeq d_Tx_meaning_341 (by decide))) (os_l (so_bipush d_Tx_meaning_344 (by decide))))))) (os_n (os_n (os_n (os_l (so_goto d_Tx_meaning_346 (by decide))) (os_l (so_aload_n d_Tx_meaning_349 rfl))) (os_n (os_l (so_ldc2 mw_2236 d_Tx_meaning_350)) (os_n (os_l (so_callV (iv := mi_Tx_is) rfl rfl rfl mw_2209 mw_2211 sl_115 mw_19 mw_2212 ⟨by decide +kernel, by decide +kernel, by decide +kernel⟩ (by decide) d_Tx_meaning_353)) (os_l (so_ifeq d_Tx_meaning_356 (by decide)))))) (os_n (os_n (os_l (so_bipush d_Tx_meaning_359 (by decide))) (os_n (os_l (so_goto d_Tx_meaning_361 (by decide))) (os_l (so_aload_n d_Tx_meaning_364 rfl)))) (os_n (os_l (so_ldc2 mw_2237 d_Tx_meaning_365)) (os_n (os_l (so_callV (iv := mi_Tx_is) rfl rfl rfl mw_2209 mw_2211 sl_115 mw_19 mw_2212 ⟨by decide +kernel, by decide +kernel, by decide +kernel⟩ (by decide) d_Tx_meaning_368)) (os_l (so_ifeq d_Tx_meaning_371 (by decide)))))))) (os_n (os_n (os_n (os_n (os_l (so_bipush d_Tx_meaning_374 (by decide))) (os_l (so_goto d_Tx_meaning_376 (by decide)))) (os_n (os_l (so_aload_n d_Tx_meaning_379 rfl)) (os_n (os_l (so_ldc2 mw_2238 d_Tx_meaning_380)) (os_l (so_callV (iv := mi_Tx_is) rfl rfl rfl mw_2209 mw_2211 sl_115 mw_19 mw_2212 ⟨by decide +kernel, by decide +kernel, by decide +kernel⟩ (by decide) d_Tx_meaning_383))))) (os_n (os_n (os_l (so_ifeq d_Tx_meaning_386 (by decide))) (os_n (os_l (so_bipush d_Tx_meaning_389 (by decide))) (os_l (so_goto d_Tx_meaning_391 (by decide))))) (os_n (os_l (so_iconst d_Tx_meaning_394 (by decide))) (os_n (os_l (so_istore_n d_Tx_meaning_395 rfl (by decide))) (os_l (so_iload_n d_Tx_meaning_396 rfl)))))) (os_n (os_n (os_n (os_l (so_iconst d_Tx_meaning_397 (by decide))) (os_l (so_iceq d_Tx_meaning_398 (by decide)))) (os_n (os_l (so_iload_n d_Tx_meaning_401 rfl)) (os_n (os_l (so_goto d_Tx_meaning_402 (by decide))) (os_l (so_iload_n d_Tx_meaning_405 rfl))))) (os_n (os_n (os_l (so_iconst d_Tx_meaning_406 (by decide))) (os_n (os_l (so_iceq d_Tx_meaning_407 (by decide))) (os_l (so_iload_n d_Tx_meaning_410 rfl)))) (os_n (os_l (so_goto d_Tx_meaning_411 (by decide))) (os_n (os_l (so_iload_n d_Tx_meaning_414 rfl)) (os_l (so_ireturn rfl d_Tx_meaning_415))))))))))
abbrev t_Tx_go_388 : List UInt8 := 172 :: []
abbrev t_Tx_go_387 : List UInt8 := 4 :: t_Tx_go_388
abbrev t_Tx_go_384 : List UInt8 := 181 :: 0 :: 146 :: t_Tx_go_387
abbrev t_Tx_go_381 : List UInt8 := 17 :: 7 :: 208 :: t_Tx_go_384
abbrev t_Tx_go_378 : List UInt8 := 167 :: 0 :: 6 :: t_Tx_go_381
abbrev t_Tx_go_377 : List UInt8 := 96 :: t_Tx_go_378
abbrev t_Tx_go_374 : List UInt8 := 182 :: 0 :: 162 :: t_Tx_go_377
abbrev t_Tx_go_373 : List UInt8 := 42 :: t_Tx_go_374
abbrev t_Tx_go_370 : List UInt8 := 17 :: 3 :: 232 :: t_Tx_go_373
abbrev t_Tx_go_367 : List UInt8 := 153 :: 0 :: 14 :: t_Tx_go_370
abbrev t_Tx_go_364 : List UInt8 := 184 :: 0 :: 149 :: t_Tx_go_367
abbrev t_Tx_go_363 : List UInt8 := 27 :: t_Tx_go_364
abbrev t_Tx_go_362 : List UInt8 := 42 :: t_Tx_go_363
abbrev t_Tx_go_361 : List UInt8 := 172 :: t_Tx_go_362
abbrev t_Tx_go_360 : List UInt8 := 3 :: t_Tx_go_361
abbrev t_Tx_go_357 : List UInt8 := 181 :: 0 :: 159 :: t_Tx_go_360
abbrev t_Tx_go_354 : List UInt8 := 180 :: 0 :: 133 :: t_Tx_go_357
abbrev t_Tx_go_353 : List UInt8 := 42 :: t_Tx_go_354
abbrev t_Tx_go_352 : List UInt8 := 42 :: t_Tx_go_353
abbrev t_Tx_go_349 : List UInt8 := 160 :: 0 :: 13 :: t_Tx_go_352
abbrev t_Tx_go_347 : List UInt8 := 16 :: 46 :: t_Tx_go_349
abbrev t_Tx_go_346 : List UInt8 := 28 :: t_Tx_go_347
abbrev t_Tx_go_343 : List UInt8 := 154 :: 0 :: 9 :: t_Tx_go_346
abbrev t_Tx_go_340 : List UInt8 := 184 :: 0 :: 153 :: t_Tx_go_343
abbrev t_Tx_go_339 : List UInt8 := 28 :: t_Tx_go_340
abbrev t_Tx_go_336 : List UInt8 := 154 :: 0 :: 16 :: t_Tx_go_339
abbrev t_Tx_go_333 : List UInt8 := 184 :: 0 :: 149 :: t_Tx_go_336
abbrev t_Tx_go_332 : List UInt8 := 28 :: t_Tx_go_333
abbrev t_Tx_go_331 : List UInt8 := 61 :: t_Tx_go_332
abbrev t_Tx_go_328 : List UInt8 := 182 :: 0 :: 136 :: t_Tx_go_331
abbrev t_Tx_go_325 : List UInt8 := 180 :: 0 :: 133 :: t_Tx_go_328
abbrev t_Tx_go_324 : List UInt8 := 42 :: t_Tx_go_325
abbrev t_Tx_go_323 : List UInt8 := 42 :: t_Tx_go_324
abbrev t_Tx_go_320 : List UInt8 := 181 :: 0 :: 72 :: t_Tx_go_323
abbrev t_Tx_go_317 : List UInt8 := 180 :: 0 :: 133 :: t_Tx_go_320
abbrev t_Tx_go_316 : List UInt8 := 42 :: t_Tx_go_317
abbrev t_Tx_go_315 : List UInt8 := 42 :: t_Tx_go_316
abbrev t_Tx_go_314 : List UInt8 := 172 :: t_Tx_go_315
abbrev t_Tx_go_313 : List UInt8 := 28 :: t_Tx_go_314
abbrev t_Tx_go_310 : List UInt8 := 181 :: 0 :: 146 :: t_Tx_go_313
abbrev t_Tx_go_309 : List UInt8 := 27 :: t_Tx_go_310
abbrev t_Tx_go_308 : List UInt8 := 42 :: t_Tx_go_309
abbrev t_Tx_go_305 : List UInt8 := 181 :: 0 :: 72 :: t_Tx_go_308
abbrev t_Tx_go_302 : List UInt8 := 180 :: 0 :: 133 :: t_Tx_go_305
abbrev t_Tx_go_301 : List UInt8 := 42 :: t_Tx_go_302
abbrev t_Tx_go_300 : List UInt8 := 42 :: t_Tx_go_301
abbrev t_Tx_go_297 : List UInt8 := 181 :: 0 :: 133 :: t_Tx_go_300
abbrev t_Tx_go_296 : List UInt8 := 96 :: t_Tx_go_297
abbrev t_Tx_go_295 : List UInt8 := 4 :: t_Tx_go_296
abbrev t_Tx_go_292 : List UInt8 := 180 :: 0 :: 133 :: t_Tx_go_295
abbrev t_Tx_go_291 : List UInt8 := 89 :: t_Tx_go_292
abbrev t_Tx_go_290 : List UInt8 := 42 :: t_Tx_go_291
abbrev t_Tx_go_287 : List UInt8 := 181 :: 0 :: 159 :: t_Tx_go_290
abbrev t_Tx_go_284 : List UInt8 := 180 :: 0 :: 133 :: t_Tx_go_287
abbrev t_Tx_go_283 : List UInt8 := 42 :: t_Tx_go_284
abbrev t_Tx_go_280 : List UInt8 := 167 :: 0 :: 7 :: t_Tx_go_283
abbrev t_Tx_go_277 : List UInt8 := 180 :: 0 :: 159 :: t_Tx_go_280
abbrev t_Tx_go_276 : List UInt8 := 42 :: t_Tx_go_277
abbrev t_Tx_go_273 : List UInt8 := 153 :: 0 :: 10 :: t_Tx_go_276
abbrev t_Tx_go_272 : List UInt8 := 28 :: t_Tx_go_273
abbrev t_Tx_go_271 : List UInt8 := 42 :: t_Tx_go_272
abbrev t_Tx_go_270 : List UInt8 := 61 :: t_Tx_go_271
abbrev t_Tx_go_269 : List UInt8 := 3 :: t_Tx_go_270
abbrev t_Tx_go_266 : List UInt8 := 167 :: 0 :: 4 :: t_Tx_go_269
abbrev t_Tx_go_265 : List UInt8 := 4 :: t_Tx_go_266
abbrev t_Tx_go_262 : List UInt8 := 160 :: 0 :: 7 :: t_Tx_go_265
abbrev t_Tx_go_260 : List UInt8 := 16 :: 62 :: t_Tx_go_262
abbrev t_Tx_go_259 : List UInt8 := 27 :: t_Tx_go_260
abbrev t_Tx_go_256 : List UInt8 := 159 :: 0 :: 9 :: t_Tx_go_259
abbrev t_Tx_go_254 : List UInt8 := 16 :: 61 :: t_Tx_go_256
abbrev t_Tx_go_253 : List UInt8 := 27 :: t_Tx_go_254
abbrev t_Tx_go_250 : List UInt8 := 159 :: 0 :: 15 :: t_Tx_go_253
abbrev t_Tx_go_248 : List UInt8 := 16 :: 60 :: t_Tx_go_250
abbrev t_Tx_go_247 : List UInt8 := 27 :: t_Tx_go_248
abbrev t_Tx_go_244 : List UInt8 := 159 :: 0 :: 21 :: t_Tx_go_247
abbrev t_Tx_go_242 : List UInt8 := 16 :: 47 :: t_Tx_go_244
abbrev t_Tx_go_241 : List UInt8 := 27 :: t_Tx_go_242
abbrev t_Tx_go_238 : List UInt8 := 159 :: 0 :: 27 :: t_Tx_go_241
abbrev t_Tx_go_236 : List UInt8 := 16 :: 42 :: t_Tx_go_238
abbrev t_Tx_go_235 : List UInt8 := 27 :: t_Tx_go_236
abbrev t_Tx_go_232 : List UInt8 := 159 :: 0 :: 33 :: t_Tx_go_235
abbrev t_Tx_go_230 : List UInt8 := 16 :: 45 :: t_Tx_go_232
abbrev t_Tx_go_229 : List UInt8 := 27 :: t_Tx_go_230
abbrev t_Tx_go_226 : List UInt8 := 159 :: 0 :: 39 :: t_Tx_go_229
abbrev t_Tx_go_224 : List UInt8 := 16 :: 43 :: t_Tx_go_226
abbrev t_Tx_go_223 : List UInt8 := 27 :: t_Tx_go_224
abbrev t_Tx_go_220 : List UInt8 := 159 :: 0 :: 45 :: t_Tx_go_223
abbrev t_Tx_go_218 : List UInt8 := 16 :: 59 :: t_Tx_go_220
abbrev t_Tx_go_217 : List UInt8 := 27 :: t_Tx_go_218
abbrev t_Tx_go_214 : List UInt8 := 159 :: 0 :: 51 :: t_Tx_go_217
abbrev t_Tx_go_212 : List UInt8 := 16 :: 41 :: t_Tx_go_214
abbrev t_Tx_go_211 : List UInt8 := 27 :: t_Tx_go_212
abbrev t_Tx_go_208 : List UInt8 := 159 :: 0 :: 57 :: t_Tx_go_211
abbrev t_Tx_go_206 : List UInt8 := 16 :: 40 :: t_Tx_go_208
abbrev t_Tx_go_205 : List UInt8 := 27 :: t_Tx_go_206
abbrev t_Tx_go_202 : List UInt8 := 159 :: 0 :: 63 :: t_Tx_go_205
abbrev t_Tx_go_200 : List UInt8 := 16 :: 125 :: t_Tx_go_202
abbrev t_Tx_go_199 : List UInt8 := 27 :: t_Tx_go_200
abbrev t_Tx_go_196 : List UInt8 := 159 :: 0 :: 69 :: t_Tx_go_199
abbrev t_Tx_go_194 : List UInt8 := 16 :: 123 :: t_Tx_go_196
abbrev t_Tx_go_193 : List UInt8 := 27 :: t_Tx_go_194
abbrev t_Tx_go_190 : List UInt8 := 167 :: 0 :: 125 :: t_Tx_go_193
abbrev t_Tx_go_187 : List UInt8 := 182 :: 0 :: 156 :: t_Tx_go_190
abbrev t_Tx_go_186 : List UInt8 := 42 :: t_Tx_go_187
abbrev t_Tx_go_183 : List UInt8 := 153 :: 0 :: 10 :: t_Tx_go_186
abbrev t_Tx_go_180 : List UInt8 := 184 :: 0 :: 153 :: t_Tx_go_183
abbrev t_Tx_go_179 : List UInt8 := 27 :: t_Tx_go_180
abbrev t_Tx_go_176 : List UInt8 := 167 :: 255 :: 204 :: t_Tx_go_179
abbrev t_Tx_go_173 : List UInt8 := 181 :: 0 :: 133 :: t_Tx_go_176
abbrev t_Tx_go_172 : List UInt8 := 96 :: t_Tx_go_173
abbrev t_Tx_go_171 : List UInt8 := 4 :: t_Tx_go_172
abbrev t_Tx_go_168 : List UInt8 := 180 :: 0 :: 133 :: t_Tx_go_171
abbrev t_Tx_go_167 : List UInt8 := 89 :: t_Tx_go_168
abbrev t_Tx_go_166 : List UInt8 := 42 :: t_Tx_go_167
abbrev t_Tx_go_163 : List UInt8 := 162 :: 0 :: 152 :: t_Tx_go_166
abbrev t_Tx_go_161 : List UInt8 := 16 :: 12 :: t_Tx_go_163
abbrev t_Tx_go_160 : List UInt8 := 100 :: t_Tx_go_161
abbrev t_Tx_go_157 : List UInt8 := 180 :: 0 :: 69 :: t_Tx_go_160
abbrev t_Tx_go_156 : List UInt8 := 42 :: t_Tx_go_157
abbrev t_Tx_go_153 : List UInt8 := 180 :: 0 :: 133 :: t_Tx_go_156
abbrev t_Tx_go_152 : List UInt8 := 42 :: t_Tx_go_153
abbrev t_Tx_go_149 : List UInt8 := 153 :: 0 :: 166 :: t_Tx_go_152
abbrev t_Tx_go_146 : List UInt8 := 184 :: 0 :: 153 :: t_Tx_go_149
abbrev t_Tx_go_143 : List UInt8 := 182 :: 0 :: 136 :: t_Tx_go_146
abbrev t_Tx_go_140 : List UInt8 := 180 :: 0 :: 133 :: t_Tx_go_143
abbrev t_Tx_go_139 : List UInt8 := 42 :: t_Tx_go_140
abbrev t_Tx_go_138 : List UInt8 := 42 :: t_Tx_go_139
abbrev t_Tx_go_135 : List UInt8 := 154 :: 0 :: 17 :: t_Tx_go_138
abbrev t_Tx_go_132 : List UInt8 := 184 :: 0 :: 149 :: t_Tx_go_135
abbrev t_Tx_go_129 : List UInt8 := 182 :: 0 :: 136 :: t_Tx_go_132
abbrev t_Tx_go_126 : List UInt8 := 180 :: 0 :: 133 :: t_Tx_go_129
abbrev t_Tx_go_125 : List UInt8 := 42 :: t_Tx_go_126
abbrev t_Tx_go_124 : List UInt8 := 42 :: t_Tx_go_125
abbrev t_Tx_go_121 : List UInt8 := 153 :: 0 :: 58 :: t_Tx_go_124
abbrev t_Tx_go_118 : List UInt8 := 184 :: 0 :: 149 :: t_Tx_go_121
abbrev t_Tx_go_117 : List UInt8 := 27 :: t_Tx_go_118
abbrev t_Tx_go_116 : List UInt8 := 172 :: t_Tx_go_117
abbrev t_Tx_go_115 : List UInt8 := 4 :: t_Tx_go_116
abbrev t_Tx_go_112 : List UInt8 := 181 :: 0 :: 146 :: t_Tx_go_115
abbrev t_Tx_go_111 : List UInt8 := 4 :: t_Tx_go_112
abbrev t_Tx_go_110 : List UInt8 := 42 :: t_Tx_go_111
abbrev t_Tx_go_107 : List UInt8 := 181 :: 0 :: 72 :: t_Tx_go_110
abbrev t_Tx_go_104 : List UInt8 := 180 :: 0 :: 133 :: t_Tx_go_107
abbrev t_Tx_go_103 : List UInt8 := 42 :: t_Tx_go_104
abbrev t_Tx_go_102 : List UInt8 := 42 :: t_Tx_go_103
abbrev t_Tx_go_99 : List UInt8 := 160 :: 0 :: 18 :: t_Tx_go_102
abbrev t_Tx_go_96 : List UInt8 := 180 :: 0 :: 65 :: t_Tx_go_99
abbrev t_Tx_go_95 : List UInt8 := 42 :: t_Tx_go_96
abbrev t_Tx_go_92 : List UInt8 := 180 :: 0 :: 133 :: t_Tx_go_95
abbrev t_Tx_go_91 : List UInt8 := 42 :: t_Tx_go_92
abbrev t_Tx_go_90 : List UInt8 := 60 :: t_Tx_go_91
abbrev t_Tx_go_87 : List UInt8 := 182 :: 0 :: 136 :: t_Tx_go_90
abbrev t_Tx_go_84 : List UInt8 := 180 :: 0 :: 133 :: t_Tx_go_87
abbrev t_Tx_go_83 : List UInt8 := 42 :: t_Tx_go_84
abbrev t_Tx_go_82 : List UInt8 := 42 :: t_Tx_go_83
abbrev t_Tx_go_79 : List UInt8 := 181 :: 0 :: 143 :: t_Tx_go_82
abbrev t_Tx_go_76 : List UInt8 := 180 :: 0 :: 140 :: t_Tx_go_79
abbrev t_Tx_go_75 : List UInt8 := 42 :: t_Tx_go_76
abbrev t_Tx_go_74 : List UInt8 := 42 :: t_Tx_go_75
abbrev t_Tx_go_71 : List UInt8 := 181 :: 0 :: 69 :: t_Tx_go_74
abbrev t_Tx_go_68 : List UInt8 := 180 :: 0 :: 133 :: t_Tx_go_71
abbrev t_Tx_go_67 : List UInt8 := 42 :: t_Tx_go_68
abbrev t_Tx_go_66 : List UInt8 := 42 :: t_Tx_go_67
abbrev t_Tx_go_63 : List UInt8 := 167 :: 255 :: 193 :: t_Tx_go_66
abbrev t_Tx_go_60 : List UInt8 := 181 :: 0 :: 133 :: t_Tx_go_63
abbrev t_Tx_go_59 : List UInt8 := 96 :: t_Tx_go_60
abbrev t_Tx_go_58 : List UInt8 := 4 :: t_Tx_go_59
abbrev t_Tx_go_55 : List UInt8 := 180 :: 0 :: 133 :: t_Tx_go_58
abbrev t_Tx_go_54 : List UInt8 := 89 :: t_Tx_go_55
abbrev t_Tx_go_53 : List UInt8 := 42 :: t_Tx_go_54
abbrev t_Tx_go_50 : List UInt8 := 181 :: 0 :: 140 :: t_Tx_go_53
abbrev t_Tx_go_49 : List UInt8 := 96 :: t_Tx_go_50
abbrev t_Tx_go_48 : List UInt8 := 3 :: t_Tx_go_49
abbrev t_Tx_go_45 : List UInt8 := 167 :: 0 :: 4 :: t_Tx_go_48
abbrev t_Tx_go_44 : List UInt8 := 4 :: t_Tx_go_45
abbrev t_Tx_go_41 : List UInt8 := 160 :: 0 :: 7 :: t_Tx_go_44
abbrev t_Tx_go_39 : List UInt8 := 16 :: 10 :: t_Tx_go_41
abbrev t_Tx_go_36 : List UInt8 := 182 :: 0 :: 136 :: t_Tx_go_39
abbrev t_Tx_go_33 : List UInt8 := 180 :: 0 :: 133 :: t_Tx_go_36
abbrev t_Tx_go_32 : List UInt8 := 42 :: t_Tx_go_33
abbrev t_Tx_go_31 : List UInt8 := 42 :: t_Tx_go_32
abbrev t_Tx_go_28 : List UInt8 := 180 :: 0 :: 140 :: t_Tx_go_31
abbrev t_Tx_go_27 : List UInt8 := 89 :: t_Tx_go_28
abbrev t_Tx_go_26 : List UInt8 := 42 :: t_Tx_go_27
abbrev t_Tx_go_23 : List UInt8 := 160 :: 0 :: 43 :: t_Tx_go_26
abbrev t_Tx_go_21 : List UInt8 := 16 :: 10 :: t_Tx_go_23
abbrev t_Tx_go_18 : List UInt8 := 182 :: 0 :: 136 :: t_Tx_go_21
abbrev t_Tx_go_15 : List UInt8 := 180 :: 0 :: 133 :: t_Tx_go_18
abbrev t_Tx_go_14 : List UInt8 := 42 :: t_Tx_go_15
abbrev t_Tx_go_13 : List UInt8 := 42 :: t_Tx_go_14
abbrev t_Tx_go_10 : List UInt8 := 159 :: 0 :: 16 :: t_Tx_go_13
abbrev t_Tx_go_8 : List UInt8 := 16 :: 32 :: t_Tx_go_10
abbrev t_Tx_go_5 : List UInt8 := 182 :: 0 :: 136 :: t_Tx_go_8
abbrev t_Tx_go_2 : List UInt8 := 180 :: 0 :: 133 :: t_Tx_go_5
abbrev t_Tx_go_1 : List UInt8 := 42 :: t_Tx_go_2
abbrev t_Tx_go_0 : List UInt8 := 42 :: t_Tx_go_1
theorem a_Tx_go_0 : dk_at b_Tx_go 0 t_Tx_go_0 := dk_start (by decide +kernel)
theorem a_Tx_go_1 : dk_at b_Tx_go 1 t_Tx_go_1 := dk_go 1 a_Tx_go_0 rfl
theorem a_Tx_go_2 : dk_at b_Tx_go 2 t_Tx_go_2 := dk_go 1 a_Tx_go_1 rfl
theorem a_Tx_go_5 : dk_at b_Tx_go 5 t_Tx_go_5 := dk_go 3 a_Tx_go_2 rfl
theorem a_Tx_go_8 : dk_at b_Tx_go 8 t_Tx_go_8 := dk_go 3 a_Tx_go_5 rfl
theorem a_Tx_go_10 : dk_at b_Tx_go 10 t_Tx_go_10 := dk_go 2 a_Tx_go_8 rfl
theorem a_Tx_go_13 : dk_at b_Tx_go 13 t_Tx_go_13 := dk_go 3 a_Tx_go_10 rfl
theorem a_Tx_go_14 : dk_at b_Tx_go 14 t_Tx_go_14 := dk_go 1 a_Tx_go_13 rfl
theorem a_Tx_go_15 : dk_at b_Tx_go 15 t_Tx_go_15 := dk_go 1 a_Tx_go_14 rfl
theorem a_Tx_go_18 : dk_at b_Tx_go 18 t_Tx_go_18 := dk_go 3 a_Tx_go_15 rfl
theorem a_Tx_go_21 : dk_at b_Tx_go 21 t_Tx_go_21 := dk_go 3 a_Tx_go_18 rfl
theorem a_Tx_go_23 : dk_at b_Tx_go 23 t_Tx_go_23 := dk_go 2 a_Tx_go_21 rfl
theorem a_Tx_go_26 : dk_at b_Tx_go 26 t_Tx_go_26 := dk_go 3 a_Tx_go_23 rfl
theorem a_Tx_go_27 : dk_at b_Tx_go 27 t_Tx_go_27 := dk_go 1 a_Tx_go_26 rfl
theorem a_Tx_go_28 : dk_at b_Tx_go 28 t_Tx_go_28 := dk_go 1 a_Tx_go_27 rfl
theorem a_Tx_go_31 : dk_at b_Tx_go 31 t_Tx_go_31 := dk_go 3 a_Tx_go_28 rfl
theorem a_Tx_go_32 : dk_at b_Tx_go 32 t_Tx_go_32 := dk_go 1 a_Tx_go_31 rfl
theorem a_Tx_go_33 : dk_at b_Tx_go 33 t_Tx_go_33 := dk_go 1 a_Tx_go_32 rfl
theorem a_Tx_go_36 : dk_at b_Tx_go 36 t_Tx_go_36 := dk_go 3 a_Tx_go_33 rfl
theorem a_Tx_go_39 : dk_at b_Tx_go 39 t_Tx_go_39 := dk_go 3 a_Tx_go_36 rfl
theorem a_Tx_go_41 : dk_at b_Tx_go 41 t_Tx_go_41 := dk_go 2 a_Tx_go_39 rfl
theorem a_Tx_go_44 : dk_at b_Tx_go 44 t_Tx_go_44 := dk_go 3 a_Tx_go_41 rfl
theorem a_Tx_go_45 : dk_at b_Tx_go 45 t_Tx_go_45 := dk_go 1 a_Tx_go_44 rfl
theorem a_Tx_go_48 : dk_at b_Tx_go 48 t_Tx_go_48 := dk_go 3 a_Tx_go_45 rfl
theorem a_Tx_go_49 : dk_at b_Tx_go 49 t_Tx_go_49 := dk_go 1 a_Tx_go_48 rfl
theorem a_Tx_go_50 : dk_at b_Tx_go 50 t_Tx_go_50 := dk_go 1 a_Tx_go_49 rfl
theorem a_Tx_go_53 : dk_at b_Tx_go 53 t_Tx_go_53 := dk_go 3 a_Tx_go_50 rfl
theorem a_Tx_go_54 : dk_at b_Tx_go 54 t_Tx_go_54 := dk_go 1 a_Tx_go_53 rfl
theorem a_Tx_go_55 : dk_at b_Tx_go 55 t_Tx_go_55 := dk_go 1 a_Tx_go_54 rfl
theorem a_Tx_go_58 : dk_at b_Tx_go 58 t_Tx_go_58 := dk_go 3 a_Tx_go_55 rfl
theorem a_Tx_go_59 : dk_at b_Tx_go 59 t_Tx_go_59 := dk_go 1 a_Tx_go_58 rfl
theorem a_Tx_go_60 : dk_at b_Tx_go 60 t_Tx_go_60 := dk_go 1 a_Tx_go_59 rfl
theorem a_Tx_go_63 : dk_at b_Tx_go 63 t_Tx_go_63 := dk_go 3 a_Tx_go_60 rfl
theorem a_Tx_go_66 : dk_at b_Tx_go 66 t_Tx_go_66 := dk_go 3 a_Tx_go_63 rfl
theorem a_Tx_go_67 : dk_at b_Tx_go 67 t_Tx_go_67 := dk_go 1 a_Tx_go_66 rfl
theorem a_Tx_go_68 : dk_at b_Tx_go 68 t_Tx_go_68 := dk_go 1 a_Tx_go_67 rfl
theorem a_Tx_go_71 : dk_at b_Tx_go 71 t_Tx_go_71 := dk_go 3 a_Tx_go_68 rfl
theorem a_Tx_go_74 : dk_at b_Tx_go 74 t_Tx_go_74 := dk_go 3 a_Tx_go_71 rfl
theorem a_Tx_go_75 : dk_at b_Tx_go 75 t_Tx_go_75 := dk_go 1 a_Tx_go_74 rfl
theorem a_Tx_go_76 : dk_at b_Tx_go 76 t_Tx_go_76 := dk_go 1 a_Tx_go_75 rfl
theorem a_Tx_go_79 : dk_at b_Tx_go 79 t_Tx_go_79 := dk_go 3 a_Tx_go_76 rfl
theorem a_Tx_go_82 : dk_at b_Tx_go 82 t_Tx_go_82 := dk_go 3 a_Tx_go_79 rfl
theorem a_Tx_go_83 : dk_at b_Tx_go 83 t_Tx_go_83 := dk_go 1 a_Tx_go_82 rfl
theorem a_Tx_go_84 : dk_at b_Tx_go 84 t_Tx_go_84 := dk_go 1 a_Tx_go_83 rfl
theorem a_Tx_go_87 : dk_at b_Tx_go 87 t_Tx_go_87 := dk_go 3 a_Tx_go_84 rfl
theorem a_Tx_go_90 : dk_at b_Tx_go 90 t_Tx_go_90 := dk_go 3 a_Tx_go_87 rfl
theorem a_Tx_go_91 : dk_at b_Tx_go 91 t_Tx_go_91 := dk_go 1 a_Tx_go_90 rfl
theorem a_Tx_go_92 : dk_at b_Tx_go 92 t_Tx_go_92 := dk_go 1 a_Tx_go_91 rfl
theorem a_Tx_go_95 : dk_at b_Tx_go 95 t_Tx_go_95 := dk_go 3 a_Tx_go_92 rfl
theorem a_Tx_go_96 : dk_at b_Tx_go 96 t_Tx_go_96 := dk_go 1 a_Tx_go_95 rfl
theorem a_Tx_go_99 : dk_at b_Tx_go 99 t_Tx_go_99 := dk_go 3 a_Tx_go_96 rfl
theorem a_Tx_go_102 : dk_at b_Tx_go 102 t_Tx_go_102 := dk_go 3 a_Tx_go_99 rfl
theorem a_Tx_go_103 : dk_at b_Tx_go 103 t_Tx_go_103 := dk_go 1 a_Tx_go_102 rfl
theorem a_Tx_go_104 : dk_at b_Tx_go 104 t_Tx_go_104 := dk_go 1 a_Tx_go_103 rfl
theorem a_Tx_go_107 : dk_at b_Tx_go 107 t_Tx_go_107 := dk_go 3 a_Tx_go_104 rfl
theorem a_Tx_go_110 : dk_at b_Tx_go 110 t_Tx_go_110 := dk_go 3 a_Tx_go_107 rfl
theorem a_Tx_go_111 : dk_at b_Tx_go 111 t_Tx_go_111 := dk_go 1 a_Tx_go_110 rfl
theorem a_Tx_go_112 : dk_at b_Tx_go 112 t_Tx_go_112 := dk_go 1 a_Tx_go_111 rfl
theorem a_Tx_go_115 : dk_at b_Tx_go 115 t_Tx_go_115 := dk_go 3 a_Tx_go_112 rfl
theorem a_Tx_go_116 : dk_at b_Tx_go 116 t_Tx_go_116 := dk_go 1 a_Tx_go_115 rfl
theorem a_Tx_go_117 : dk_at b_Tx_go 117 t_Tx_go_117 := dk_go 1 a_Tx_go_116 rfl
theorem a_Tx_go_118 : dk_at b_Tx_go 118 t_Tx_go_118 := dk_go 1 a_Tx_go_117 rfl
theorem a_Tx_go_121 : dk_at b_Tx_go 121 t_Tx_go_121 := dk_go 3 a_Tx_go_118 rfl
theorem a_Tx_go_124 : dk_at b_Tx_go 124 t_Tx_go_124 := dk_go 3 a_Tx_go_121 rfl
theorem a_Tx_go_125 : dk_at b_Tx_go 125 t_Tx_go_125 := dk_go 1 a_Tx_go_124 rfl
theorem a_Tx_go_126 : dk_at b_Tx_go 126 t_Tx_go_126 := dk_go 1 a_Tx_go_125 rfl
theorem a_Tx_go_129 : dk_at b_Tx_go 129 t_Tx_go_129 := dk_go 3 a_Tx_go_126 rfl
theorem a_Tx_go_132 : dk_at b_Tx_go 132 t_Tx_go_132 := dk_go 3 a_Tx_go_129 rfl
theorem a_Tx_go_135 : dk_at b_Tx_go 135 t_Tx_go_135 := dk_go 3 a_Tx_go_132 rfl
theorem a_Tx_go_138 : dk_at b_Tx_go 138 t_Tx_go_138 := dk_go 3 a_Tx_go_135 rfl
theorem a_Tx_go_139 : dk_at b_Tx_go 139 t_Tx_go_139 := dk_go 1 a_Tx_go_138 rfl
theorem a_Tx_go_140 : dk_at b_Tx_go 140 t_Tx_go_140 := dk_go 1 a_Tx_go_139 rfl
theorem a_Tx_go_143 : dk_at b_Tx_go 143 t_Tx_go_143 := dk_go 3 a_Tx_go_140 rfl
theorem a_Tx_go_146 : dk_at b_Tx_go 146 t_Tx_go_146 := dk_go 3 a_Tx_go_143 rfl
theorem a_Tx_go_149 : dk_at b_Tx_go 149 t_Tx_go_149 := dk_go 3 a_Tx_go_146 rfl
theorem a_Tx_go_152 : dk_at b_Tx_go 152 t_Tx_go_152 := dk_go 3 a_Tx_go_149 rfl
theorem a_Tx_go_153 : dk_at b_Tx_go 153 t_Tx_go_153 := dk_go 1 a_Tx_go_152 rfl
theorem a_Tx_go_156 : dk_at b_Tx_go 156 t_Tx_go_156 := dk_go 3 a_Tx_go_153 rfl
theorem a_Tx_go_157 : dk_at b_Tx_go 157 t_Tx_go_157 := dk_go 1 a_Tx_go_156 rfl
theorem a_Tx_go_160 : dk_at b_Tx_go 160 t_Tx_go_160 := dk_go 3 a_Tx_go_157 rfl
theorem a_Tx_go_161 : dk_at b_Tx_go 161 t_Tx_go_161 := dk_go 1 a_Tx_go_160 rfl
theorem a_Tx_go_163 : dk_at b_Tx_go 163 t_Tx_go_163 := dk_go 2 a_Tx_go_161 rfl
theorem a_Tx_go_166 : dk_at b_Tx_go 166 t_Tx_go_166 := dk_go 3 a_Tx_go_163 rfl
theorem a_Tx_go_167 : dk_at b_Tx_go 167 t_Tx_go_167 := dk_go 1 a_Tx_go_166 rfl
theorem a_Tx_go_168 : dk_at b_Tx_go 168 t_Tx_go_168 := dk_go 1 a_Tx_go_167 rfl
theorem a_Tx_go_171 : dk_at b_Tx_go 171 t_Tx_go_171 := dk_go 3 a_Tx_go_168 rfl
theorem a_Tx_go_172 : dk_at b_Tx_go 172 t_Tx_go_172 := dk_go 1 a_Tx_go_171 rfl
theorem a_Tx_go_173 : dk_at b_Tx_go 173 t_Tx_go_173 := dk_go 1 a_Tx_go_172 rfl
theorem a_Tx_go_176 : dk_at b_Tx_go 176 t_Tx_go_176 := dk_go 3 a_Tx_go_173 rfl
theorem a_Tx_go_179 : dk_at b_Tx_go 179 t_Tx_go_179 := dk_go 3 a_Tx_go_176 rfl
theorem a_Tx_go_180 : dk_at b_Tx_go 180 t_Tx_go_180 := dk_go 1 a_Tx_go_179 rfl
theorem a_Tx_go_183 : dk_at b_Tx_go 183 t_Tx_go_183 := dk_go 3 a_Tx_go_180 rfl
theorem a_Tx_go_186 : dk_at b_Tx_go 186 t_Tx_go_186 := dk_go 3 a_Tx_go_183 rfl
theorem a_Tx_go_187 : dk_at b_Tx_go 187 t_Tx_go_187 := dk_go 1 a_Tx_go_186 rfl
theorem a_Tx_go_190 : dk_at b_Tx_go 190 t_Tx_go_190 := dk_go 3 a_Tx_go_187 rfl
theorem a_Tx_go_193 : dk_at b_Tx_go 193 t_Tx_go_193 := dk_go 3 a_Tx_go_190 rfl
theorem a_Tx_go_194 : dk_at b_Tx_go 194 t_Tx_go_194 := dk_go 1 a_Tx_go_193 rfl
theorem a_Tx_go_196 : dk_at b_Tx_go 196 t_Tx_go_196 := dk_go 2 a_Tx_go_194 rfl
theorem a_Tx_go_199 : dk_at b_Tx_go 199 t_Tx_go_199 := dk_go 3 a_Tx_go_196 rfl
theorem a_Tx_go_200 : dk_at b_Tx_go 200 t_Tx_go_200 := dk_go 1 a_Tx_go_199 rfl
theorem a_Tx_go_202 : dk_at b_Tx_go 202 t_Tx_go_202 := dk_go 2 a_Tx_go_200 rfl
theorem a_Tx_go_205 : dk_at b_Tx_go 205 t_Tx_go_205 := dk_go 3 a_Tx_go_202 rfl
theorem a_Tx_go_206 : dk_at b_Tx_go 206 t_Tx_go_206 := dk_go 1 a_Tx_go_205 rfl
theorem a_Tx_go_208 : dk_at b_Tx_go 208 t_Tx_go_208 := dk_go 2 a_Tx_go_206 rfl
theorem a_Tx_go_211 : dk_at b_Tx_go 211 t_Tx_go_211 := dk_go 3 a_Tx_go_208 rfl
theorem a_Tx_go_212 : dk_at b_Tx_go 212 t_Tx_go_212 := dk_go 1 a_Tx_go_211 rfl
theorem a_Tx_go_214 : dk_at b_Tx_go 214 t_Tx_go_214 := dk_go 2 a_Tx_go_212 rfl
theorem a_Tx_go_217 : dk_at b_Tx_go 217 t_Tx_go_217 := dk_go 3 a_Tx_go_214 rfl
theorem a_Tx_go_218 : dk_at b_Tx_go 218 t_Tx_go_218 := dk_go 1 a_Tx_go_217 rfl
theorem a_Tx_go_220 : dk_at b_Tx_go 220 t_Tx_go_220 := dk_go 2 a_Tx_go_218 rfl
theorem a_Tx_go_223 : dk_at b_Tx_go 223 t_Tx_go_223 := dk_go 3 a_Tx_go_220 rfl
theorem a_Tx_go_224 : dk_at b_Tx_go 224 t_Tx_go_224 := dk_go 1 a_Tx_go_223 rfl
theorem a_Tx_go_226 : dk_at b_Tx_go 226 t_Tx_go_226 := dk_go 2 a_Tx_go_224 rfl
theorem a_Tx_go_229 : dk_at b_Tx_go 229 t_Tx_go_229 := dk_go 3 a_Tx_go_226 rfl
theorem a_Tx_go_230 : dk_at b_Tx_go 230 t_Tx_go_230 := dk_go 1 a_Tx_go_229 rfl
theorem a_Tx_go_232 : dk_at b_Tx_go 232 t_Tx_go_232 := dk_go 2 a_Tx_go_230 rfl
theorem a_Tx_go_235 : dk_at b_Tx_go 235 t_Tx_go_235 := dk_go 3 a_Tx_go_232 rfl
theorem a_Tx_go_236 : dk_at b_Tx_go 236 t_Tx_go_236 := dk_go 1 a_Tx_go_235 rfl
theorem a_Tx_go_238 : dk_at b_Tx_go 238 t_Tx_go_238 := dk_go 2 a_Tx_go_236 rfl
theorem a_Tx_go_241 : dk_at b_Tx_go 241 t_Tx_go_241 := dk_go 3 a_Tx_go_238 rfl
theorem a_Tx_go_242 : dk_at b_Tx_go 242 t_Tx_go_242 := dk_go 1 a_Tx_go_241 rfl
theorem a_Tx_go_244 : dk_at b_Tx_go 244 t_Tx_go_244 := dk_go 2 a_Tx_go_242 rfl
theorem a_Tx_go_247 : dk_at b_Tx_go 247 t_Tx_go_247 := dk_go 3 a_Tx_go_244 rfl
theorem a_Tx_go_248 : dk_at b_Tx_go 248 t_Tx_go_248 := dk_go 1 a_Tx_go_247 rfl
theorem a_Tx_go_250 : dk_at b_Tx_go 250 t_Tx_go_250 := dk_go 2 a_Tx_go_248 rfl
theorem a_Tx_go_253 : dk_at b_Tx_go 253 t_Tx_go_253 := dk_go 3 a_Tx_go_250 rfl
theorem a_Tx_go_254 : dk_at b_Tx_go 254 t_Tx_go_254 := dk_go 1 a_Tx_go_253 rfl
theorem a_Tx_go_256 : dk_at b_Tx_go 256 t_Tx_go_256 := dk_go 2 a_Tx_go_254 rfl
theorem a_Tx_go_259 : dk_at b_Tx_go 259 t_Tx_go_259 := dk_go 3 a_Tx_go_256 rfl
theorem a_Tx_go_260 : dk_at b_Tx_go 260 t_Tx_go_260 := dk_go 1 a_Tx_go_259 rfl
theorem a_Tx_go_262 : dk_at b_Tx_go 262 t_Tx_go_262 := dk_go 2 a_Tx_go_260 rfl
theorem a_Tx_go_265 : dk_at b_Tx_go 265 t_Tx_go_265 := dk_go 3 a_Tx_go_262 rfl
theorem a_Tx_go_266 : dk_at b_Tx_go 266 t_Tx_go_266 := dk_go 1 a_Tx_go_265 rfl
theorem a_Tx_go_269 : dk_at b_Tx_go 269 t_Tx_go_269 := dk_go 3 a_Tx_go_266 rfl
theorem a_Tx_go_270 : dk_at b_Tx_go 270 t_Tx_go_270 := dk_go 1 a_Tx_go_269 rfl
theorem a_Tx_go_271 : dk_at b_Tx_go 271 t_Tx_go_271 := dk_go 1 a_Tx_go_270 rfl
theorem a_Tx_go_272 : dk_at b_Tx_go 272 t_Tx_go_272 := dk_go 1 a_Tx_go_271 rfl
theorem a_Tx_go_273 : dk_at b_Tx_go 273 t_Tx_go_273 := dk_go 1 a_Tx_go_272 rfl
theorem a_Tx_go_276 : dk_at b_Tx_go 276 t_Tx_go_276 := dk_go 3 a_Tx_go_273 rfl
theorem a_Tx_go_277 : dk_at b_Tx_go 277 t_Tx_go_277 := dk_go 1 a_Tx_go_276 rfl
theorem a_Tx_go_280 : dk_at b_Tx_go 280 t_Tx_go_280 := dk_go 3 a_Tx_go_277 rfl
theorem a_Tx_go_283 : dk_at b_Tx_go 283 t_Tx_go_283 := dk_go 3 a_Tx_go_280 rfl
theorem a_Tx_go_284 : dk_at b_Tx_go 284 t_Tx_go_284 := dk_go 1 a_Tx_go_283 rfl
theorem a_Tx_go_287 : dk_at b_Tx_go 287 t_Tx_go_287 := dk_go 3 a_Tx_go_284 rfl
theorem a_Tx_go_290 : dk_at b_Tx_go 290 t_Tx_go_290 := dk_go 3 a_Tx_go_287 rfl
theorem a_Tx_go_291 : dk_at b_Tx_go 291 t_Tx_go_291 := dk_go 1 a_Tx_go_290 rfl
theorem a_Tx_go_292 : dk_at b_Tx_go 292 t_Tx_go_292 := dk_go 1 a_Tx_go_291 rfl
theorem a_Tx_go_295 : dk_at b_Tx_go 295 t_Tx_go_295 := dk_go 3 a_Tx_go_292 rfl
theorem a_Tx_go_296 : dk_at b_Tx_go 296 t_Tx_go_296 := dk_go 1 a_Tx_go_295 rfl
theorem a_Tx_go_297 : dk_at b_Tx_go 297 t_Tx_go_297 := dk_go 1 a_Tx_go_296 rfl
theorem a_Tx_go_300 : dk_at b_Tx_go 300 t_Tx_go_300 := dk_go 3 a_Tx_go_297 rfl
theorem a_Tx_go_301 : dk_at b_Tx_go 301 t_Tx_go_301 := dk_go 1 a_Tx_go_300 rfl
theorem a_Tx_go_302 : dk_at b_Tx_go 302 t_Tx_go_302 := dk_go 1 a_Tx_go_301 rfl
theorem a_Tx_go_305 : dk_at b_Tx_go 305 t_Tx_go_305 := dk_go 3 a_Tx_go_302 rfl
theorem a_Tx_go_308 : dk_at b_Tx_go 308 t_Tx_go_308 := dk_go 3 a_Tx_go_305 rfl
theorem a_Tx_go_309 : dk_at b_Tx_go 309 t_Tx_go_309 := dk_go 1 a_Tx_go_308 rfl
theorem a_Tx_go_310 : dk_at b_Tx_go 310 t_Tx_go_310 := dk_go 1 a_Tx_go_309 rfl
theorem a_Tx_go_313 : dk_at b_Tx_go 313 t_Tx_go_313 := dk_go 3 a_Tx_go_310 rfl
theorem a_Tx_go_314 : dk_at b_Tx_go 314 t_Tx_go_314 := dk_go 1 a_Tx_go_313 rfl
theorem a_Tx_go_315 : dk_at b_Tx_go 315 t_Tx_go_315 := dk_go 1 a_Tx_go_314 rfl
theorem a_Tx_go_316 : dk_at b_Tx_go 316 t_Tx_go_316 := dk_go 1 a_Tx_go_315 rfl
theorem a_Tx_go_317 : dk_at b_Tx_go 317 t_Tx_go_317 := dk_go 1 a_Tx_go_316 rfl
theorem a_Tx_go_320 : dk_at b_Tx_go 320 t_Tx_go_320 := dk_go 3 a_Tx_go_317 rfl
theorem a_Tx_go_323 : dk_at b_Tx_go 323 t_Tx_go_323 := dk_go 3 a_Tx_go_320 rfl
theorem a_Tx_go_324 : dk_at b_Tx_go 324 t_Tx_go_324 := dk_go 1 a_Tx_go_323 rfl
theorem a_Tx_go_325 : dk_at b_Tx_go 325 t_Tx_go_325 := dk_go 1 a_Tx_go_324 rfl
theorem a_Tx_go_328 : dk_at b_Tx_go 328 t_Tx_go_328 := dk_go 3 a_Tx_go_325 rfl
theorem a_Tx_go_331 : dk_at b_Tx_go 331 t_Tx_go_331 := dk_go 3 a_Tx_go_328 rfl
theorem a_Tx_go_332 : dk_at b_Tx_go 332 t_Tx_go_332 := dk_go 1 a_Tx_go_331 rfl
theorem a_Tx_go_333 : dk_at b_Tx_go 333 t_Tx_go_333 := dk_go 1 a_Tx_go_332 rfl
theorem a_Tx_go_336 : dk_at b_Tx_go 336 t_Tx_go_336 := dk_go 3 a_Tx_go_333 rfl
theorem a_Tx_go_339 : dk_at b_Tx_go 339 t_Tx_go_339 := dk_go 3 a_Tx_go_336 rfl
theorem a_Tx_go_340 : dk_at b_Tx_go 340 t_Tx_go_340 := dk_go 1 a_Tx_go_339 rfl
theorem a_Tx_go_343 : dk_at b_Tx_go 343 t_Tx_go_343 := dk_go 3 a_Tx_go_340 rfl
theorem a_Tx_go_346 : dk_at b_Tx_go 346 t_Tx_go_346 := dk_go 3 a_Tx_go_343 rfl
theorem a_Tx_go_347 : dk_at b_Tx_go 347 t_Tx_go_347 := dk_go 1 a_Tx_go_346 rfl
theorem a_Tx_go_349 : dk_at b_Tx_go 349 t_Tx_go_349 := dk_go 2 a_Tx_go_347 rfl
theorem a_Tx_go_352 : dk_at b_Tx_go 352 t_Tx_go_352 := dk_go 3 a_Tx_go_349 rfl
theorem a_Tx_go_353 : dk_at b_Tx_go 353 t_Tx_go_353 := dk_go 1 a_Tx_go_352 rfl
theorem a_Tx_go_354 : dk_at b_Tx_go 354 t_Tx_go_354 := dk_go 1 a_Tx_go_353 rfl
theorem a_Tx_go_357 : dk_at b_Tx_go 357 t_Tx_go_357 := dk_go 3 a_Tx_go_354 rfl
theorem a_Tx_go_360 : dk_at b_Tx_go 360 t_Tx_go_360 := dk_go 3 a_Tx_go_357 rfl
theorem a_Tx_go_361 : dk_at b_Tx_go 361 t_Tx_go_361 := dk_go 1 a_Tx_go_360 rfl
theorem a_Tx_go_362 : dk_at b_Tx_go 362 t_Tx_go_362 := dk_go 1 a_Tx_go_361 rfl
theorem a_Tx_go_363 : dk_at b_Tx_go 363 t_Tx_go_363 := dk_go 1 a_Tx_go_362 rfl
theorem a_Tx_go_364 : dk_at b_Tx_go 364 t_Tx_go_364 := dk_go 1 a_Tx_go_363 rfl
theorem a_Tx_go_367 : dk_at b_Tx_go 367 t_Tx_go_367 := dk_go 3 a_Tx_go_364 rfl
theorem a_Tx_go_370 : dk_at b_Tx_go 370 t_Tx_go_370 := dk_go 3 a_Tx_go_367 rfl
theorem a_Tx_go_373 : dk_at b_Tx_go 373 t_Tx_go_373 := dk_go 3 a_Tx_go_370 rfl
theorem a_Tx_go_374 : dk_at b_Tx_go 374 t_Tx_go_374 := dk_go 1 a_Tx_go_373 rfl
theorem a_Tx_go_377 : dk_at b_Tx_go 377 t_Tx_go_377 := dk_go 3 a_Tx_go_374 rfl
theorem a_Tx_go_378 : dk_at b_Tx_go 378 t_Tx_go_378 := dk_go 1 a_Tx_go_377 rfl
theorem a_Tx_go_381 : dk_at b_Tx_go 381 t_Tx_go_381 := dk_go 3 a_Tx_go_378 rfl
theorem a_Tx_go_384 : dk_at b_Tx_go 384 t_Tx_go_384 := dk_go 3 a_Tx_go_381 rfl
theorem a_Tx_go_387 : dk_at b_Tx_go 387 t_Tx_go_387 := dk_go 3 a_Tx_go_384 rfl
theorem a_Tx_go_388 : dk_at b_Tx_go 388 t_Tx_go_388 := dk_go 1 a_Tx_go_387 rfl
theorem d_Tx_go_0 : decode b_Tx_go 0 = .ok (.aload_n 0, 1) := dk_0 a_Tx_go_0 (dko_42 _)
theorem d_Tx_go_1 : decode b_Tx_go 1 = .ok (.aload_n 0, 1) := dk_0 a_Tx_go_1 (dko_42 _)
theorem d_Tx_go_2 : decode b_Tx_go 2 = .ok (.getfield 133, 3) := dk_U2 a_Tx_go_2 (dko_180 _) rfl
theorem d_Tx_go_5 : decode b_Tx_go 5 = .ok (.invokevirtual 136, 3) := dk_U2 a_Tx_go_5 (dko_182 _) rfl
theorem d_Tx_go_8 : decode b_Tx_go 8 = .ok (.bipush 32, 2) := dk_S1 a_Tx_go_8 (dko_16 _) (by decide +kernel)
theorem d_Tx_go_10 : decode b_Tx_go 10 = .ok (.if_icmp .eq 16, 3) := dk_S2 a_Tx_go_10 (dko_159 _) (by decide +kernel)
theorem d_Tx_go_13 : decode b_Tx_go 13 = .ok (.aload_n 0, 1) := dk_0 a_Tx_go_13 (dko_42 _)
theorem d_Tx_go_14 : decode b_Tx_go 14 = .ok (.aload_n 0, 1) := dk_0 a_Tx_go_14 (dko_42 _)
theorem d_Tx_go_15 : decode b_Tx_go 15 = .ok (.getfield 133, 3) := dk_U2 a_Tx_go_15 (dko_180 _) rfl
theorem d_Tx_go_18 : decode b_Tx_go 18 = .ok (.invokevirtual 136, 3) := dk_U2 a_Tx_go_18 (dko_182 _) rfl
theorem d_Tx_go_21 : decode b_Tx_go 21 = .ok (.bipush 10, 2) := dk_S1 a_Tx_go_21 (dko_16 _) (by decide +kernel)
theorem d_Tx_go_23 : decode b_Tx_go 23 = .ok (.if_icmp .ne 43, 3) := dk_S2 a_Tx_go_23 (dko_160 _) (by decide +kernel)
theorem d_Tx_go_26 : decode b_Tx_go 26 = .ok (.aload_n 0, 1) := dk_0 a_Tx_go_26 (dko_42 _)
theorem d_Tx_go_27 : decode b_Tx_go 27 = .ok (.dup, 1) := dk_0 a_Tx_go_27 (dko_89 _)
theorem d_Tx_go_28 : decode b_Tx_go 28 = .ok (.getfield 140, 3) := dk_U2 a_Tx_go_28 (dko_180 _) rfl
theorem d_Tx_go_31 : decode b_Tx_go 31 = .ok (.aload_n 0, 1) := dk_0 a_Tx_go_31 (dko_42 _)
theorem d_Tx_go_32 : decode b_Tx_go 32 = .ok (.aload_n 0, 1) := dk_0 a_Tx_go_32 (dko_42 _)
theorem d_Tx_go_33 : decode b_Tx_go 33 = .ok (.getfield 133, 3) := dk_U2 a_Tx_go_33 (dko_180 _) rfl
theorem d_Tx_go_36 : decode b_Tx_go 36 = .ok (.invokevirtual 136, 3) := dk_U2 a_Tx_go_36 (dko_182 _) rfl
theorem d_Tx_go_39 : decode b_Tx_go 39 = .ok (.bipush 10, 2) := dk_S1 a_Tx_go_39 (dko_16 _) (by decide +kernel)
theorem d_Tx_go_41 : decode b_Tx_go 41 = .ok (.if_icmp .ne 7, 3) := dk_S2 a_Tx_go_41 (dko_160 _) (by decide +kernel)
theorem d_Tx_go_44 : decode b_Tx_go 44 = .ok (.iconst 1, 1) := dk_0 a_Tx_go_44 (dko_4 _)
theorem d_Tx_go_45 : decode b_Tx_go 45 = .ok (.goto 4, 3) := dk_S2 a_Tx_go_45 (dko_167 _) (by decide +kernel)
theorem d_Tx_go_48 : decode b_Tx_go 48 = .ok (.iconst 0, 1) := dk_0 a_Tx_go_48 (dko_3 _)
theorem d_Tx_go_49 : decode b_Tx_go 49 = .ok (.iadd, 1) := dk_0 a_Tx_go_49 (dko_96 _)
theorem d_Tx_go_50 : decode b_Tx_go 50 = .ok (.putfield 140, 3) := dk_U2 a_Tx_go_50 (dko_181 _) rfl
theorem d_Tx_go_53 : decode b_Tx_go 53 = .ok (.aload_n 0, 1) := dk_0 a_Tx_go_53 (dko_42 _)
theorem d_Tx_go_54 : decode b_Tx_go 54 = .ok (.dup, 1) := dk_0 a_Tx_go_54 (dko_89 _)
theorem d_Tx_go_55 : decode b_Tx_go 55 = .ok (.getfield 133, 3) := dk_U2 a_Tx_go_55 (dko_180 _) rfl
theorem d_Tx_go_58 : decode b_Tx_go 58 = .ok (.iconst 1, 1) := dk_0 a_Tx_go_58 (dko_4 _)
theorem d_Tx_go_59 : decode b_Tx_go 59 = .ok (.iadd, 1) := dk_0 a_Tx_go_59 (dko_96 _)
theorem d_Tx_go_60 : decode b_Tx_go 60 = .ok (.putfield 133, 3) := dk_U2 a_Tx_go_60 (dko_181 _) rfl
theorem d_Tx_go_63 : decode b_Tx_go 63 = .ok (.goto (-63), 3) := dk_S2 a_Tx_go_63 (dko_167 _) (by decide +kernel)
theorem d_Tx_go_66 : decode b_Tx_go 66 = .ok (.aload_n 0, 1) := dk_0 a_Tx_go_66 (dko_42 _)
theorem d_Tx_go_67 : decode b_Tx_go 67 = .ok (.aload_n 0, 1) := dk_0 a_Tx_go_67 (dko_42 _)
theorem d_Tx_go_68 : decode b_Tx_go 68 = .ok (.getfield 133, 3) := dk_U2 a_Tx_go_68 (dko_180 _) rfl
theorem d_Tx_go_71 : decode b_Tx_go 71 = .ok (.putfield 69, 3) := dk_U2 a_Tx_go_71 (dko_181 _) rfl
theorem d_Tx_go_74 : decode b_Tx_go 74 = .ok (.aload_n 0, 1) := dk_0 a_Tx_go_74 (dko_42 _)
theorem d_Tx_go_75 : decode b_Tx_go 75 = .ok (.aload_n 0, 1) := dk_0 a_Tx_go_75 (dko_42 _)
theorem d_Tx_go_76 : decode b_Tx_go 76 = .ok (.getfield 140, 3) := dk_U2 a_Tx_go_76 (dko_180 _) rfl
theorem d_Tx_go_79 : decode b_Tx_go 79 = .ok (.putfield 143, 3) := dk_U2 a_Tx_go_79 (dko_181 _) rfl
theorem d_Tx_go_82 : decode b_Tx_go 82 = .ok (.aload_n 0, 1) := dk_0 a_Tx_go_82 (dko_42 _)
theorem d_Tx_go_83 : decode b_Tx_go 83 = .ok (.aload_n 0, 1) := dk_0 a_Tx_go_83 (dko_42 _)
theorem d_Tx_go_84 : decode b_Tx_go 84 = .ok (.getfield 133, 3) := dk_U2 a_Tx_go_84 (dko_180 _) rfl
theorem d_Tx_go_87 : decode b_Tx_go 87 = .ok (.invokevirtual 136, 3) := dk_U2 a_Tx_go_87 (dko_182 _) rfl
theorem d_Tx_go_90 : decode b_Tx_go 90 = .ok (.istore_n 1, 1) := dk_0 a_Tx_go_90 (dko_60 _)
theorem d_Tx_go_91 : decode b_Tx_go 91 = .ok (.aload_n 0, 1) := dk_0 a_Tx_go_91 (dko_42 _)
theorem d_Tx_go_92 : decode b_Tx_go 92 = .ok (.getfield 133, 3) := dk_U2 a_Tx_go_92 (dko_180 _) rfl
theorem d_Tx_go_95 : decode b_Tx_go 95 = .ok (.aload_n 0, 1) := dk_0 a_Tx_go_95 (dko_42 _)
theorem d_Tx_go_96 : decode b_Tx_go 96 = .ok (.getfield 65, 3) := dk_U2 a_Tx_go_96 (dko_180 _) rfl
theorem d_Tx_go_99 : decode b_Tx_go 99 = .ok (.if_icmp .ne 18, 3) := dk_S2 a_Tx_go_99 (dko_160 _) (by decide +kernel)
theorem d_Tx_go_102 : decode b_Tx_go 102 = .ok (.aload_n 0, 1) := dk_0 a_Tx_go_102 (dko_42 _)
theorem d_Tx_go_103 : decode b_Tx_go 103 = .ok (.aload_n 0, 1) := dk_0 a_Tx_go_103 (dko_42 _)
theorem d_Tx_go_104 : decode b_Tx_go 104 = .ok (.getfield 133, 3) := dk_U2 a_Tx_go_104 (dko_180 _) rfl
theorem d_Tx_go_107 : decode b_Tx_go 107 = .ok (.putfield 72, 3) := dk_U2 a_Tx_go_107 (dko_181 _) rfl
theorem d_Tx_go_110 : decode b_Tx_go 110 = .ok (.aload_n 0, 1) := dk_0 a_Tx_go_110 (dko_42 _)
theorem d_Tx_go_111 : decode b_Tx_go 111 = .ok (.iconst 1, 1) := dk_0 a_Tx_go_111 (dko_4 _)
theorem d_Tx_go_112 : decode b_Tx_go 112 = .ok (.putfield 146, 3) := dk_U2 a_Tx_go_112 (dko_181 _) rfl
theorem d_Tx_go_115 : decode b_Tx_go 115 = .ok (.iconst 1, 1) := dk_0 a_Tx_go_115 (dko_4 _)
theorem d_Tx_go_116 : decode b_Tx_go 116 = .ok (.ireturn, 1) := dk_0 a_Tx_go_116 (dko_172 _)
theorem d_Tx_go_117 : decode b_Tx_go 117 = .ok (.iload_n 1, 1) := dk_0 a_Tx_go_117 (dko_27 _)
theorem d_Tx_go_118 : decode b_Tx_go 118 = .ok (.invokestatic 149, 3) := dk_U2 a_Tx_go_118 (dko_184 _) rfl
theorem d_Tx_go_121 : decode b_Tx_go 121 = .ok (.ifCond .eq 58, 3) := dk_S2 a_Tx_go_121 (dko_153 _) (by decide +kernel)
theorem d_Tx_go_124 : decode b_Tx_go 124 = .ok (.aload_n 0, 1) := dk_0 a_Tx_go_124 (dko_42 _)
theorem d_Tx_go_125 : decode b_Tx_go 125 = .ok (.aload_n 0, 1) := dk_0 a_Tx_go_125 (dko_42 _)
theorem d_Tx_go_126 : decode b_Tx_go 126 = .ok (.getfield 133, 3) := dk_U2 a_Tx_go_126 (dko_180 _) rfl
theorem d_Tx_go_129 : decode b_Tx_go 129 = .ok (.invokevirtual 136, 3) := dk_U2 a_Tx_go_129 (dko_182 _) rfl
theorem d_Tx_go_132 : decode b_Tx_go 132 = .ok (.invokestatic 149, 3) := dk_U2 a_Tx_go_132 (dko_184 _) rfl
theorem d_Tx_go_135 : decode b_Tx_go 135 = .ok (.ifCond .ne 17, 3) := dk_S2 a_Tx_go_135 (dko_154 _) (by decide +kernel)
theorem d_Tx_go_138 : decode b_Tx_go 138 = .ok (.aload_n 0, 1) := dk_0 a_Tx_go_138 (dko_42 _)
theorem d_Tx_go_139 : decode b_Tx_go 139 = .ok (.aload_n 0, 1) := dk_0 a_Tx_go_139 (dko_42 _)
theorem d_Tx_go_140 : decode b_Tx_go 140 = .ok (.getfield 133, 3) := dk_U2 a_Tx_go_140 (dko_180 _) rfl
theorem d_Tx_go_143 : decode b_Tx_go 143 = .ok (.invokevirtual 136, 3) := dk_U2 a_Tx_go_143 (dko_182 _) rfl
theorem d_Tx_go_146 : decode b_Tx_go 146 = .ok (.invokestatic 153, 3) := dk_U2 a_Tx_go_146 (dko_184 _) rfl
theorem d_Tx_go_149 : decode b_Tx_go 149 = .ok (.ifCond .eq 166, 3) := dk_S2 a_Tx_go_149 (dko_153 _) (by decide +kernel)
theorem d_Tx_go_152 : decode b_Tx_go 152 = .ok (.aload_n 0, 1) := dk_0 a_Tx_go_152 (dko_42 _)
theorem d_Tx_go_153 : decode b_Tx_go 153 = .ok (.getfield 133, 3) := dk_U2 a_Tx_go_153 (dko_180 _) rfl
theorem d_Tx_go_156 : decode b_Tx_go 156 = .ok (.aload_n 0, 1) := dk_0 a_Tx_go_156 (dko_42 _)
theorem d_Tx_go_157 : decode b_Tx_go 157 = .ok (.getfield 69, 3) := dk_U2 a_Tx_go_157 (dko_180 _) rfl
theorem d_Tx_go_160 : decode b_Tx_go 160 = .ok (.isub, 1) := dk_0 a_Tx_go_160 (dko_100 _)
theorem d_Tx_go_161 : decode b_Tx_go 161 = .ok (.bipush 12, 2) := dk_S1 a_Tx_go_161 (dko_16 _) (by decide +kernel)
theorem d_Tx_go_163 : decode b_Tx_go 163 = .ok (.if_icmp .ge 152, 3) := dk_S2 a_Tx_go_163 (dko_162 _) (by decide +kernel)
theorem d_Tx_go_166 : decode b_Tx_go 166 = .ok (.aload_n 0, 1) := dk_0 a_Tx_go_166 (dko_42 _)
theorem d_Tx_go_167 : decode b_Tx_go 167 = .ok (.dup, 1) := dk_0 a_Tx_go_167 (dko_89 _)
theorem d_Tx_go_168 : decode b_Tx_go 168 = .ok (.getfield 133, 3) := dk_U2 a_Tx_go_168 (dko_180 _) rfl
theorem d_Tx_go_171 : decode b_Tx_go 171 = .ok (.iconst 1, 1) := dk_0 a_Tx_go_171 (dko_4 _)
theorem d_Tx_go_172 : decode b_Tx_go 172 = .ok (.iadd, 1) := dk_0 a_Tx_go_172 (dko_96 _)
theorem d_Tx_go_173 : decode b_Tx_go 173 = .ok (.putfield 133, 3) := dk_U2 a_Tx_go_173 (dko_181 _) rfl
theorem d_Tx_go_176 : decode b_Tx_go 176 = .ok (.goto (-52), 3) := dk_S2 a_Tx_go_176 (dko_167 _) (by decide +kernel)
theorem d_Tx_go_179 : decode b_Tx_go 179 = .ok (.iload_n 1, 1) := dk_0 a_Tx_go_179 (dko_27 _)
theorem d_Tx_go_180 : decode b_Tx_go 180 = .ok (.invokestatic 153, 3) := dk_U2 a_Tx_go_180 (dko_184 _) rfl
theorem d_Tx_go_183 : decode b_Tx_go 183 = .ok (.ifCond .eq 10, 3) := dk_S2 a_Tx_go_183 (dko_153 _) (by decide +kernel)
theorem d_Tx_go_186 : decode b_Tx_go 186 = .ok (.aload_n 0, 1) := dk_0 a_Tx_go_186 (dko_42 _)
theorem d_Tx_go_187 : decode b_Tx_go 187 = .ok (.invokevirtual 156, 3) := dk_U2 a_Tx_go_187 (dko_182 _) rfl
theorem d_Tx_go_190 : decode b_Tx_go 190 = .ok (.goto 125, 3) := dk_S2 a_Tx_go_190 (dko_167 _) (by decide +kernel)
theorem d_Tx_go_193 : decode b_Tx_go 193 = .ok (.iload_n 1, 1) := dk_0 a_Tx_go_193 (dko_27 _)
theorem d_Tx_go_194 : decode b_Tx_go 194 = .ok (.bipush 123, 2) := dk_S1 a_Tx_go_194 (dko_16 _) (by decide +kernel)
theorem d_Tx_go_196 : decode b_Tx_go 196 = .ok (.if_icmp .eq 69, 3) := dk_S2 a_Tx_go_196 (dko_159 _) (by decide +kernel)
theorem d_Tx_go_199 : decode b_Tx_go 199 = .ok (.iload_n 1, 1) := dk_0 a_Tx_go_199 (dko_27 _)
theorem d_Tx_go_200 : decode b_Tx_go 200 = .ok (.bipush 125, 2) := dk_S1 a_Tx_go_200 (dko_16 _) (by decide +kernel)
theorem d_Tx_go_202 : decode b_Tx_go 202 = .ok (.if_icmp .eq 63, 3) := dk_S2 a_Tx_go_202 (dko_159 _) (by decide +kernel)
theorem d_Tx_go_205 : decode b_Tx_go 205 = .ok (.iload_n 1, 1) := dk_0 a_Tx_go_205 (dko_27 _)
theorem d_Tx_go_206 : decode b_Tx_go 206 = .ok (.bipush 40, 2) := dk_S1 a_Tx_go_206 (dko_16 _) (by decide +kernel)
theorem d_Tx_go_208 : decode b_Tx_go 208 = .ok (.if_icmp .eq 57, 3) := dk_S2 a_Tx_go_208 (dko_159 _) (by decide +kernel)
theorem d_Tx_go_211 : decode b_Tx_go 211 = .ok (.iload_n 1, 1) := dk_0 a_Tx_go_211 (dko_27 _)
theorem d_Tx_go_212 : decode b_Tx_go 212 = .ok (.bipush 41, 2) := dk_S1 a_Tx_go_212 (dko_16 _) (by decide +kernel)
theorem d_Tx_go_214 : decode b_Tx_go 214 = .ok (.if_icmp .eq 51, 3) := dk_S2 a_Tx_go_214 (dko_159 _) (by decide +kernel)
theorem d_Tx_go_217 : decode b_Tx_go 217 = .ok (.iload_n 1, 1) := dk_0 a_Tx_go_217 (dko_27 _)
theorem d_Tx_go_218 : decode b_Tx_go 218 = .ok (.bipush 59, 2) := dk_S1 a_Tx_go_218 (dko_16 _) (by decide +kernel)
theorem d_Tx_go_220 : decode b_Tx_go 220 = .ok (.if_icmp .eq 45, 3) := dk_S2 a_Tx_go_220 (dko_159 _) (by decide +kernel)
theorem d_Tx_go_223 : decode b_Tx_go 223 = .ok (.iload_n 1, 1) := dk_0 a_Tx_go_223 (dko_27 _)
theorem d_Tx_go_224 : decode b_Tx_go 224 = .ok (.bipush 43, 2) := dk_S1 a_Tx_go_224 (dko_16 _) (by decide +kernel)
theorem d_Tx_go_226 : decode b_Tx_go 226 = .ok (.if_icmp .eq 39, 3) := dk_S2 a_Tx_go_226 (dko_159 _) (by decide +kernel)
theorem d_Tx_go_229 : decode b_Tx_go 229 = .ok (.iload_n 1, 1) := dk_0 a_Tx_go_229 (dko_27 _)
theorem d_Tx_go_230 : decode b_Tx_go 230 = .ok (.bipush 45, 2) := dk_S1 a_Tx_go_230 (dko_16 _) (by decide +kernel)
theorem d_Tx_go_232 : decode b_Tx_go 232 = .ok (.if_icmp .eq 33, 3) := dk_S2 a_Tx_go_232 (dko_159 _) (by decide +kernel)
theorem d_Tx_go_235 : decode b_Tx_go 235 = .ok (.iload_n 1, 1) := dk_0 a_Tx_go_235 (dko_27 _)
theorem d_Tx_go_236 : decode b_Tx_go 236 = .ok (.bipush 42, 2) := dk_S1 a_Tx_go_236 (dko_16 _) (by decide +kernel)
theorem d_Tx_go_238 : decode b_Tx_go 238 = .ok (.if_icmp .eq 27, 3) := dk_S2 a_Tx_go_238 (dko_159 _) (by decide +kernel)
theorem d_Tx_go_241 : decode b_Tx_go 241 = .ok (.iload_n 1, 1) := dk_0 a_Tx_go_241 (dko_27 _)
theorem d_Tx_go_242 : decode b_Tx_go 242 = .ok (.bipush 47, 2) := dk_S1 a_Tx_go_242 (dko_16 _) (by decide +kernel)
theorem d_Tx_go_244 : decode b_Tx_go 244 = .ok (.if_icmp .eq 21, 3) := dk_S2 a_Tx_go_244 (dko_159 _) (by decide +kernel)
theorem d_Tx_go_247 : decode b_Tx_go 247 = .ok (.iload_n 1, 1) := dk_0 a_Tx_go_247 (dko_27 _)
theorem d_Tx_go_248 : decode b_Tx_go 248 = .ok (.bipush 60, 2) := dk_S1 a_Tx_go_248 (dko_16 _) (by decide +kernel)
theorem d_Tx_go_250 : decode b_Tx_go 250 = .ok (.if_icmp .eq 15, 3) := dk_S2 a_Tx_go_250 (dko_159 _) (by decide +kernel)
theorem d_Tx_go_253 : decode b_Tx_go 253 = .ok (.iload_n 1, 1) := dk_0 a_Tx_go_253 (dko_27 _)
theorem d_Tx_go_254 : decode b_Tx_go 254 = .ok (.bipush 61, 2) := dk_S1 a_Tx_go_254 (dko_16 _) (by decide +kernel)
theorem d_Tx_go_256 : decode b_Tx_go 256 = .ok (.if_icmp .eq 9, 3) := dk_S2 a_Tx_go_256 (dko_159 _) (by decide +kernel)
theorem d_Tx_go_259 : decode b_Tx_go 259 = .ok (.iload_n 1, 1) := dk_0 a_Tx_go_259 (dko_27 _)
theorem d_Tx_go_260 : decode b_Tx_go 260 = .ok (.bipush 62, 2) := dk_S1 a_Tx_go_260 (dko_16 _) (by decide +kernel)
theorem d_Tx_go_262 : decode b_Tx_go 262 = .ok (.if_icmp .ne 7, 3) := dk_S2 a_Tx_go_262 (dko_160 _) (by decide +kernel)
theorem d_Tx_go_265 : decode b_Tx_go 265 = .ok (.iconst 1, 1) := dk_0 a_Tx_go_265 (dko_4 _)
theorem d_Tx_go_266 : decode b_Tx_go 266 = .ok (.goto 4, 3) := dk_S2 a_Tx_go_266 (dko_167 _) (by decide +kernel)
theorem d_Tx_go_269 : decode b_Tx_go 269 = .ok (.iconst 0, 1) := dk_0 a_Tx_go_269 (dko_3 _)
theorem d_Tx_go_270 : decode b_Tx_go 270 = .ok (.istore_n 2, 1) := dk_0 a_Tx_go_270 (dko_61 _)
theorem d_Tx_go_271 : decode b_Tx_go 271 = .ok (.aload_n 0, 1) := dk_0 a_Tx_go_271 (dko_42 _)
theorem d_Tx_go_272 : decode b_Tx_go 272 = .ok (.iload_n 2, 1) := dk_0 a_Tx_go_272 (dko_28 _)
theorem d_Tx_go_273 : decode b_Tx_go 273 = .ok (.ifCond .eq 10, 3) := dk_S2 a_Tx_go_273 (dko_153 _) (by decide +kernel)
theorem d_Tx_go_276 : decode b_Tx_go 276 = .ok (.aload_n 0, 1) := dk_0 a_Tx_go_276 (dko_42 _)
theorem d_Tx_go_277 : decode b_Tx_go 277 = .ok (.getfield 159, 3) := dk_U2 a_Tx_go_277 (dko_180 _) rfl
theorem d_Tx_go_280 : decode b_Tx_go 280 = .ok (.goto 7, 3) := dk_S2 a_Tx_go_280 (dko_167 _) (by decide +kernel)
theorem d_Tx_go_283 : decode b_Tx_go 283 = .ok (.aload_n 0, 1) := dk_0 a_Tx_go_283 (dko_42 _)
theorem d_Tx_go_284 : decode b_Tx_go 284 = .ok (.getfield 133, 3) := dk_U2 a_Tx_go_284 (dko_180 _) rfl
theorem d_Tx_go_287 : decode b_Tx_go 287 = .ok (.putfield 159, 3) := dk_U2 a_Tx_go_287 (dko_181 _) rfl
theorem d_Tx_go_290 : decode b_Tx_go 290 = .ok (.aload_n 0, 1) := dk_0 a_Tx_go_290 (dko_42 _)
theorem d_Tx_go_291 : decode b_Tx_go 291 = .ok (.dup, 1) := dk_0 a_Tx_go_291 (dko_89 _)
theorem d_Tx_go_292 : decode b_Tx_go 292 = .ok (.getfield 133, 3) := dk_U2 a_Tx_go_292 (dko_180 _) rfl
theorem d_Tx_go_295 : decode b_Tx_go 295 = .ok (.iconst 1, 1) := dk_0 a_Tx_go_295 (dko_4 _)
theorem d_Tx_go_296 : decode b_Tx_go 296 = .ok (.iadd, 1) := dk_0 a_Tx_go_296 (dko_96 _)
theorem d_Tx_go_297 : decode b_Tx_go 297 = .ok (.putfield 133, 3) := dk_U2 a_Tx_go_297 (dko_181 _) rfl
theorem d_Tx_go_300 : decode b_Tx_go 300 = .ok (.aload_n 0, 1) := dk_0 a_Tx_go_300 (dko_42 _)
theorem d_Tx_go_301 : decode b_Tx_go 301 = .ok (.aload_n 0, 1) := dk_0 a_Tx_go_301 (dko_42 _)
theorem d_Tx_go_302 : decode b_Tx_go 302 = .ok (.getfield 133, 3) := dk_U2 a_Tx_go_302 (dko_180 _) rfl
theorem d_Tx_go_305 : decode b_Tx_go 305 = .ok (.putfield 72, 3) := dk_U2 a_Tx_go_305 (dko_181 _) rfl
theorem d_Tx_go_308 : decode b_Tx_go 308 = .ok (.aload_n 0, 1) := dk_0 a_Tx_go_308 (dko_42 _)
theorem d_Tx_go_309 : decode b_Tx_go 309 = .ok (.iload_n 1, 1) := dk_0 a_Tx_go_309 (dko_27 _)
theorem d_Tx_go_310 : decode b_Tx_go 310 = .ok (.putfield 146, 3) := dk_U2 a_Tx_go_310 (dko_181 _) rfl
theorem d_Tx_go_313 : decode b_Tx_go 313 = .ok (.iload_n 2, 1) := dk_0 a_Tx_go_313 (dko_28 _)
theorem d_Tx_go_314 : decode b_Tx_go 314 = .ok (.ireturn, 1) := dk_0 a_Tx_go_314 (dko_172 _)
theorem d_Tx_go_315 : decode b_Tx_go 315 = .ok (.aload_n 0, 1) := dk_0 a_Tx_go_315 (dko_42 _)
theorem d_Tx_go_316 : decode b_Tx_go 316 = .ok (.aload_n 0, 1) := dk_0 a_Tx_go_316 (dko_42 _)
theorem d_Tx_go_317 : decode b_Tx_go 317 = .ok (.getfield 133, 3) := dk_U2 a_Tx_go_317 (dko_180 _) rfl
theorem d_Tx_go_320 : decode b_Tx_go 320 = .ok (.putfield 72, 3) := dk_U2 a_Tx_go_320 (dko_181 _) rfl
theorem d_Tx_go_323 : decode b_Tx_go 323 = .ok (.aload_n 0, 1) := dk_0 a_Tx_go_323 (dko_42 _)
theorem d_Tx_go_324 : decode b_Tx_go 324 = .ok (.aload_n 0, 1) := dk_0 a_Tx_go_324 (dko_42 _)
theorem d_Tx_go_325 : decode b_Tx_go 325 = .ok (.getfield 133, 3) := dk_U2 a_Tx_go_325 (dko_180 _) rfl
theorem d_Tx_go_328 : decode b_Tx_go 328 = .ok (.invokevirtual 136, 3) := dk_U2 a_Tx_go_328 (dko_182 _) rfl
theorem d_Tx_go_331 : decode b_Tx_go 331 = .ok (.istore_n 2, 1) := dk_0 a_Tx_go_331 (dko_61 _)
theorem d_Tx_go_332 : decode b_Tx_go 332 = .ok (.iload_n 2, 1) := dk_0 a_Tx_go_332 (dko_28 _)
theorem d_Tx_go_333 : decode b_Tx_go 333 = .ok (.invokestatic 149, 3) := dk_U2 a_Tx_go_333 (dko_184 _) rfl
theorem d_Tx_go_336 : decode b_Tx_go 336 = .ok (.ifCond .ne 16, 3) := dk_S2 a_Tx_go_336 (dko_154 _) (by decide +kernel)
theorem d_Tx_go_339 : decode b_Tx_go 339 = .ok (.iload_n 2, 1) := dk_0 a_Tx_go_339 (dko_28 _)
theorem d_Tx_go_340 : decode b_Tx_go 340 = .ok (.invokestatic 153, 3) := dk_U2 a_Tx_go_340 (dko_184 _) rfl
theorem d_Tx_go_343 : decode b_Tx_go 343 = .ok (.ifCond .ne 9, 3) := dk_S2 a_Tx_go_343 (dko_154 _) (by decide +kernel)
theorem d_Tx_go_346 : decode b_Tx_go 346 = .ok (.iload_n 2, 1) := dk_0 a_Tx_go_346 (dko_28 _)
theorem d_Tx_go_347 : decode b_Tx_go 347 = .ok (.bipush 46, 2) := dk_S1 a_Tx_go_347 (dko_16 _) (by decide +kernel)
theorem d_Tx_go_349 : decode b_Tx_go 349 = .ok (.if_icmp .ne 13, 3) := dk_S2 a_Tx_go_349 (dko_160 _) (by decide +kernel)
theorem d_Tx_go_352 : decode b_Tx_go 352 = .ok (.aload_n 0, 1) := dk_0 a_Tx_go_352 (dko_42 _)
theorem d_Tx_go_353 : decode b_Tx_go 353 = .ok (.aload_n 0, 1) := dk_0 a_Tx_go_353 (dko_42 _)
theorem d_Tx_go_354 : decode b_Tx_go 354 = .ok (.getfield 133, 3) := dk_U2 a_Tx_go_354 (dko_180 _) rfl
theorem d_Tx_go_357 : decode b_Tx_go 357 = .ok (.putfield 159, 3) := dk_U2 a_Tx_go_357 (dko_181 _) rfl
theorem d_Tx_go_360 : decode b_Tx_go 360 = .ok (.iconst 0, 1) := dk_0 a_Tx_go_360 (dko_3 _)
theorem d_Tx_go_361 : decode b_Tx_go 361 = .ok (.ireturn, 1) := dk_0 a_Tx_go_361 (dko_172 _)
theorem d_Tx_go_362 : decode b_Tx_go 362 = .ok (.aload_n 0, 1) := dk_0 a_Tx_go_362 (dko_42 _)
theorem d_Tx_go_363 : decode b_Tx_go 363 = .ok (.iload_n 1, 1) := dk_0 a_Tx_go_363 (dko_27 _)
theorem d_Tx_go_364 : decode b_Tx_go 364 = .ok (.invokestatic 149, 3) := dk_U2 a_Tx_go_364 (dko_184 _) rfl
theorem d_Tx_go_367 : decode b_Tx_go 367 = .ok (.ifCond .eq 14, 3) := dk_S2 a_Tx_go_367 (dko_153 _) (by decide +kernel)
theorem d_Tx_go_370 : decode b_Tx_go 370 = .ok (.sipush 1000, 3) := dk_S2 a_Tx_go_370 (dko_17 _) (by decide +kernel)
theorem d_Tx_go_373 : decode b_Tx_go 373 = .ok (.aload_n 0, 1) := dk_0 a_Tx_go_373 (dko_42 _)
theorem d_Tx_go_374 : decode b_Tx_go 374 = .ok (.invokevirtual 162, 3) := dk_U2 a_Tx_go_374 (dko_182 _) rfl
theorem d_Tx_go_377 : decode b_Tx_go 377 = .ok (.iadd, 1) := dk_0 a_Tx_go_377 (dko_96 _)
theorem d_Tx_go_378 : decode b_Tx_go 378 = .ok (.goto 6, 3) := dk_S2 a_Tx_go_378 (dko_167 _) (by decide +kernel)
theorem d_Tx_go_381 : decode b_Tx_go 381 = .ok (.sipush 2000, 3) := dk_S2 a_Tx_go_381 (dko_17 _) (by decide +kernel)
theorem d_Tx_go_384 : decode b_Tx_go 384 = .ok (.putfield 146, 3) := dk_U2 a_Tx_go_384 (dko_181 _) rfl
theorem d_Tx_go_387 : decode b_Tx_go 387 = .ok (.iconst 1, 1) := dk_0 a_Tx_go_387 (dko_4 _)
theorem d_Tx_go_388 : decode b_Tx_go 388 = .ok (.ireturn, 1) := dk_0 a_Tx_go_388 (dko_172 _)
set_option maxHeartbeats 4000000 in
set_option maxRecDepth 100000 in
theorem ok_Tx_go (pc : Nat) : OpS mt mi_Tx_go pc (cs_Tx_go pc) := (os_n (os_n (os_n (os_n (os_n (os_n (os_n (os_l (so_aload_n d_Tx_go_0 rfl)) (os_n (os_l (so_aload_n d_Tx_go_1 rfl)) (os_l (so_get (C := R_Tx) (T := F_Tx) (N := 39) (j := 2) in_Tx rfl (by decide) mw_1581 d_Tx_go_2)))) (os_n (os_l (so_callV (iv := mi_Tx_at) rfl rfl rfl mw_2186 mw_2188 sl_112 mw_19 mw_2189 ⟨by decide +kernel, by decide +kernel, by decide +kernel⟩ (by decide) d_Tx_go_5)) (os_n (os_l (so_bipush d_Tx_go_8 (by decide))) (os_l (so_iceq d_Tx_go_10 (by decide)))))) (os_n (os_n (os_l (so_aload_n d_Tx_go_13 rfl)) (os_n (os_l (so_aload_n d_Tx_go_14 rfl)) (os_l (so_get (C := R_Tx) (T := F_Tx) (N := 39) (j := 2) in_Tx rfl (by decide) mw_1581 d_Tx_go_15)))) (os_n (os_l (so_callV (iv := mi_Tx_at) rfl rfl rfl mw_2186 mw_2188 sl_112 mw_19 mw_2189 ⟨by decide +kernel, by decide +kernel, by decide +kernel⟩ (by decide) d_Tx_go_18)) (os_n (os_l (so_bipush d_Tx_go_21 (by decide))) (os_l (so_icne d_Tx_go_23 (by decide))))))) (os_n (os_n (os_n (os_l (so_aload_n d_Tx_go_26 rfl)) (os_n (os_l (so_dup d_Tx_go_27)) (os_l (so_get (C := R_Tx) (T := F_Tx) (N := 39) (j := 3) in_Tx rfl (by decide) mw_1582 d_Tx_go_28)))) (os_n (os_l (so_aload_n d_Tx_go_31 rfl)) (os_n (os_l (so_aload_n d_Tx_go_32 rfl)) (os_l (so_get (C := R_Tx) (T := F_Tx) (N := 39) (j := 2) in_Tx rfl (by decide) mw_1581 d_Tx_go_33))))) (os_n (os_n (os_l (so_callV (iv := mi_Tx_at) rfl rfl rfl mw_2186 mw_2188 sl_112 mw_19 mw_2189 ⟨by decide +kernel, by decide +kernel, by decide +kernel⟩ (by decide) d_Tx_go_36)) (os_n (os_l (so_bipush d_Tx_go_39 (by decide))) (os_l (so_icne d_Tx_go_41 (by decide))))) (os_n (os_l (so_iconst d_Tx_go_44 (by decide))) (os_n (os_l (so_goto d_Tx_go_45 (by decide))) (os_l (so_iconst d_Tx_go_48 (by decide)))))))) (os_n (os_n (os_n (os_n (os_l (so_iadd d_Tx_go_49)) (os_n (os_l (so_putI (C := R_Tx) (T := F_Tx) (N := 39) (j := 3) in_Tx t_Tx_ok n_Tx rfl (by decide) mw_1582 rfl (by decide +kernel) d_Tx_go_50)) (os_l (so_aload_n d_Tx_go_53 rfl)))) (os_n (os_l (so_dup d_Tx_go_54)) (os_n (os_l (so_get (C := R_Tx) (T := F_Tx) (N := 39) (j := 2) in_Tx rfl (by decide) mw_1581 d_Tx_go_55)) (os_l (so_iconst d_Tx_go_58 (by decide)))))) (os_n (os_n (os_l (so_iadd d_Tx_go_59)) (os_n (os_l (so_putI (C := R_Tx) (T := F_Tx) (N := 39) (j := 2) in_Tx t_Tx_ok n_Tx rfl (by decide) mw_1581 rfl (by decide +kernel) d_Tx_go_60)) (os_l (so_goto d_Tx_go_63 (by decide))))) (os_n (os_l (so_aload_n d_Tx_go_66 rfl)) (os_n (os_l (so_aload_n d_Tx_go_67 rfl)) (os_l (so_get (C := R_Tx) (T := F_Tx) (N := 39) (j := 2) in_Tx rfl (by decide) mw_1581 d_Tx_go_68)))))) (os_n (os_n (os_n (os_l (so_putI (C := R_Tx) (T := F_Tx) (N := 39) (j := 5) in_Tx t_Tx_ok n_Tx rfl (by decide) mw_1584 rfl (by decide +kernel) d_Tx_go_71)) (os_n (os_l (so_aload_n d_Tx_go_74 rfl)) (os_l (so_aload_n d_Tx_go_75 rfl)))) (os_n (os_l (so_get (C := R_Tx) (T := F_Tx) (N := 39) (j := 3) in_Tx rfl (by decide) mw_1582 d_Tx_go_76)) (os_n (os_l (so_putI (C := R_Tx) (T := F_Tx) (N := 39) (j := 7) in_Tx t_Tx_ok n_Tx rfl (by decide) mw_1586 rfl (by decide +kernel) d_Tx_go_79)) (os_l (so_aload_n d_Tx_go_82 rfl))))) (os_n (os_n (os_l (so_aload_n d_Tx_go_83 rfl)) (os_n (os_l (so_get (C := R_Tx) (T := F_Tx) (N := 39) (j := 2) in_Tx rfl (by decide) mw_1581 d_Tx_go_84)) (os_l (so_callV (iv := mi_Tx_at) rfl rfl rfl mw_2186 mw_2188 sl_112 mw_19 mw_2189 ⟨by decide +kernel, by decide +kernel, by decide +kernel⟩ (by decide) d_Tx_go_87)))) (os_n (os_n (os_l (so_istore_n d_Tx_go_90 rfl (by decide))) (os_l (so_aload_n d_Tx_go_91 rfl))) (os_n (os_l (so_get (C := R_Tx) (T := F_Tx) (N := 39) (j := 2) in_Tx rfl (by decide) mw_1581 d_Tx_go_92)) (os_l (so_aload_n d_Tx_go_95 rfl)))))))) (os_n (os_n (os_n (os_n (os_n (os_l (so_get (C := R_Tx) (T := F_Tx) (N := 39) (j := 1) in_Tx rfl (by decide) mw_1580 d_Tx_go_96)) (os_n (os_l (so_icne d_Tx_go_99 (by decide))) (os_l (so_aload_n d_Tx_go_102 rfl)))) (os_n (os_l (so_aload_n d_Tx_go_103 rfl)) (os_n (os_l (so_get (C := R_Tx) (T := F_Tx) (N := 39) (j := 2) in_Tx rfl (by decide) mw_1581 d_Tx_go_104)) (os_l (so_putI (C := R_Tx) (T := F_Tx) (N := 39) (j := 6) in_Tx t_Tx_ok n_Tx rfl (by decide) mw_1585 rfl (by decide +kernel) d_Tx_go_107))))) (os_n (os_n (os_l (so_aload_n d_Tx_go_110 rfl)) (os_n (os_l (so_iconst d_Tx_go_111 (by decide))) (os_l (so_putI (C := R_Tx) (T := F_Tx) (N := 39) (j := 4) in_Tx t_Tx_ok n_Tx rfl (by decide) mw_1583 rfl (by decide +kernel) d_Tx_go_112)))) (os_n (os_l (so_iconst d_Tx_go_115 (by decide))) (os_n (os_l (so_zreturn rfl d_Tx_go_116)) (os_l (so_iload_n d_Tx_go_117 rfl)))))) (os_n (os_n (os_n (os_l (so_callS (iv := mi_Tx_isLetter) rfl mw_2190 mw_2191 mw_19 mw_2192 ⟨by decide +kernel, by decide +kernel, by decide +kernel⟩ (by decide) d_Tx_go_118)) (os_n (os_l (so_ifeq d_Tx_go_121 (by decide))) (os_l (so_aload_n d_Tx_go_124 rfl)))) (os_n (os_l (so_aload_n d_Tx_go_125 rfl)) (os_n (os_l (so_get (C := R_Tx) (T := F_Tx) (N := 39) (j := 2) in_Tx rfl (by decide) mw_1581 d_Tx_go_126)) (os_l (so_callV (iv := mi_Tx_at) rfl rfl rfl mw_2186 mw_2188 sl_112 mw_19 mw_2189 ⟨by decide +kernel, by decide +kernel, by decide +kernel⟩ (by decide) d_Tx_go_129))))) (os_n (os_n (os_l (so_callS (iv := mi_Tx_isLetter) rfl mw_2190 mw_2191 mw_19 mw_2192 ⟨by decide +kernel, by decide +kernel, by decide +kernel⟩ (by decide) d_Tx_go_132)) (os_n (os_l (so_ifne d_Tx_go_135 (by decide))) (os_l (so_aload_n d_Tx_go_138 rfl)))) (os_n (os_l (so_aload_n d_Tx_go_139 rfl)) (os_n (os_l (so_get (C := R_Tx) (T := F_Tx) (N := 39) (j := 2) in_Tx rfl (by decide) mw_1581 d_Tx_go_140)) (os_l (so_callV (iv := mi_Tx_at) rfl rfl rfl mw_2186 mw_2188 sl_112 mw_19 mw_2189 ⟨by decide +kernel, by decide +kernel, by decide +kernel⟩ (by decide) d_Tx_go_143))))))) (os_n (os_n (os_n (os_n (os_l (so_callS (iv := mi_Tx_isDigit) rfl mw_2193 mw_2194 mw_19 mw_2195 ⟨by decide +kernel, by decide +kernel, by decide +kernel⟩ (by decide) d_Tx_go_146)) (os_n (os_l (so_ifeq d_Tx_go_149 (by decide))) (os_l (so_aload_n d_Tx_go_152 rfl)))) (os_n (os_l (so_get (C := R_Tx) (T := F_Tx) (N := 39) (j := 2) in_Tx rfl (by decide) mw_1581 d_Tx_go_153)) (os_n (os_l (so_aload_n d_Tx_go_156 rfl)) (os_l (so_get (C := R_Tx) (T := F_Tx) (N := 39) (j := 5) in_Tx rfl (by decide) mw_1584 d_Tx_go_157))))) (os_n (os_n (os_l (so_isub d_Tx_go_160)) (os_n (os_l (so_bipush d_Tx_go_161 (by decide))) (os_l (so_icge d_Tx_go_163 (by decide))))) (os_n (os_l (so_aload_n d_Tx_go_166 rfl)) (os_n (os_l (so_dup d_Tx_go_167)) (os_l (so_get (C := R_Tx) (T := F_Tx) (N := 39) (j := 2) in_Tx rfl (by decide) mw_1581 d_Tx_go_168)))))) (os_n (os_n (os_n (os_l (so_iconst d_Tx_go_171 (by decide))) (os_n (os_l (so_iadd d_Tx_go_172)) (os_l (so_putI (C := R_Tx) (T := F_Tx) (N := 39) (j := 2) in_Tx t_Tx_ok n_Tx rfl (by decide) mw_1581 rfl (by decide +kernel) d_Tx_go_173)))) (os_n (os_l (so_goto d_Tx_go_176 (by decide))) (os_n (os_l (so_iload_n d_Tx_go_179 rfl)) (os_l (so_callS (iv := mi_Tx_isDigit) rfl mw_2193 mw_2194 mw_19 mw_2195 ⟨by decide +kernel, by decide +kernel, by decide +kernel⟩ (by decide) d_Tx_go_180))))) (os_n (os_n (os_l (so_ifeq d_Tx_go_183 (by decide))) (os_n (os_l (so_aload_n d_Tx_go_186 rfl)) (os_l (so_callV (iv := mi_Tx_digits) rfl rfl rfl mw_2196 mw_2198 sl_113 mw_19 mw_2199 ⟨by decide +kernel, by decide +kernel, by decide +kernel⟩ (by decide) d_Tx_go_187)))) (os_n (os_n (os_l (so_goto d_Tx_go_190 (by decide))) (os_l (so_iload_n d_Tx_go_193 rfl))) (os_n (os_l (so_bipush d_Tx_go_194 (by decide))) (os_l (so_iceq d_Tx_go_196 (by decide)))))))))) (os_n (os_n (os_n (os_n (os_n (os_n (os_l (so_iload_n d_Tx_go_199 rfl)) (os_n (os_l (so_bipush d_Tx_go_200 (by decide))) (os_l (so_iceq d_Tx_go_202 (by decide))))) (os_n (os_l (so_iload_n d_Tx_go_205 rfl)) (os_n (os_l (so_bipush d_Tx_go_206 (by decide))) (os_l (so_iceq d_Tx_go_208 (by decide)))))) (os_n (os_n (os_l (so_iload_n d_Tx_go_211 rfl)) (os_n (os_l (so_bipush d_Tx_go_212 (by decide))) (os_l (so_iceq d_Tx_go_214 (by decide))))) (os_n (os_l (so_iload_n d_Tx_go_217 rfl)) (os_n (os_l (so_bipush d_Tx_go_218 (by decide))) (os_l (so_iceq d_Tx_go_220 (by decide))))))) (os_n (os_n (os_n (os_l (so_iload_n d_Tx_go_223 rfl)) (os_n (os_l (so_bipush d_Tx_go_224 (by decide))) (os_l (so_iceq d_Tx_go_226 (by decide))))) (os_n (os_l (so_iload_n d_Tx_go_229 rfl)) (os_n (os_l (so_bipush d_Tx_go_230 (by decide))) (os_l (so_iceq d_Tx_go_232 (by decide)))))) (os_n (os_n (os_l (so_iload_n d_Tx_go_235 rfl)) (os_n (os_l (so_bipush d_Tx_go_236 (by decide))) (os_l (so_iceq d_Tx_go_238 (by decide))))) (os_n (os_l (so_iload_n d_Tx_go_241 rfl)) (os_n (os_l (so_bipush d_Tx_go_242 (by decide))) (os_l (so_iceq d_Tx_go_244 (by decide)))))))) (os_n (os_n (os_n (os_n (os_l (so_iload_n d_Tx_go_247 rfl)) (os_n (os_l (so_bipush d_Tx_go_248 (by decide))) (os_l (so_iceq d_Tx_go_250 (by decide))))) (os_n (os_l (so_iload_n d_Tx_go_253 rfl)) (os_n (os_l (so_bipush d_Tx_go_254 (by decide))) (os_l (so_iceq d_Tx_go_256 (by decide)))))) (os_n (os_n (os_l (so_iload_n d_Tx_go_259 rfl)) (os_n (os_l (so_bipush d_Tx_go_260 (by decide))) (os_l (so_icne d_Tx_go_262 (by decide))))) (os_n (os_l (so_iconst d_Tx_go_265 (by decide))) (os_n (os_l (so_goto d_Tx_go_266 (by decide))) (os_l (so_iconst d_Tx_go_269 (by decide))))))) (os_n (os_n (os_n (os_l (so_istore_n d_Tx_go_270 rfl (by decide))) (os_n (os_l (so_aload_n d_Tx_go_271 rfl)) (os_l (so_iload_n d_Tx_go_272 rfl)))) (os_n (os_l (so_ifeq d_Tx_go_273 (by decide))) (os_n (os_l (so_aload_n d_Tx_go_276 rfl)) (os_l (so_get (C := R_Tx) (T := F_Tx) (N := 39) (j := 10) in_Tx rfl (by decide) mw_1589 d_Tx_go_277))))) (os_n (os_n (os_l (so_goto d_Tx_go_280 (by decide))) (os_n (os_l (so_aload_n d_Tx_go_283 rfl)) (os_l (so_get (C := R_Tx) (T := F_Tx) (N := 39) (j := 2) in_Tx rfl (by decide) mw_1581 d_Tx_go_284)))) (os_n (os_n (os_l (so_putI (C := R_Tx) (T := F_Tx) (N := 39) (j := 10) in_Tx t_Tx_ok n_Tx rfl (by decide) mw_1589 rfl (by decide +kernel) d_Tx_go_287)) (os_l (so_aload_n d_Tx_go_290 rfl))) (os_n (os_l (so_dup d_Tx_go_291)) (os_l (so_get (C := R_Tx) (T := F_Tx) (N := 39) (j := 2) in_Tx rfl (by decide) mw_1581 d_Tx_go_292)))))))) (os_n (os_n (os_n (os_n (os_n (os_l (so_iconst d_Tx_go_295 (by decide))) (os_n (os_l (so_iadd d_Tx_go_296)) (os_l (so_putI (C := R_Tx) (T := F_Tx) (N := 39) (j := 2) in_Tx t_Tx_ok n_Tx rfl (by decide) mw_1581 rfl (by decide +kernel) d_Tx_go_297)))) (os_n (os_l (so_aload_n d_Tx_go_300 rfl)) (os_n (os_l (so_aload_n d_Tx_go_301 rfl)) (os_l (so_get (C := R_Tx) (T := F_Tx) (N := 39) (j := 2) in_Tx rfl (by decide) mw_1581 d_Tx_go_302))))) (os_n (os_n (os_l (so_putI (C := R_Tx) (T := F_Tx) (N := 39) (j := 6) in_Tx t_Tx_ok n_Tx rfl (by decide) mw_1585 rfl (by decide +kernel) d_Tx_go_305)) (os_n (os_l (so_aload_n d_Tx_go_308 rfl)) (os_l (so_iload_n d_Tx_go_309 rfl)))) (os_n (os_l (so_putI (C := R_Tx) (T := F_Tx) (N := 39) (j := 4) in_Tx t_Tx_ok n_Tx rfl (by decide) mw_1583 rfl (by decide +kernel) d_Tx_go_310)) (os_n (os_l (so_iload_n d_Tx_go_313 rfl)) (os_l (so_zreturn rfl d_Tx_go_314)))))) (os_n (os_n (os_n (os_l (so_aload_n d_Tx_go_315 rfl)) (os_n (os_l (so_aload_n d_Tx_go_316 rfl)) (os_l (so_get (C := R_Tx) (T := F_Tx) (N := 39) (j := 2) in_Tx rfl (by decide) mw_1581 d_Tx_go_317)))) (os_n (os_l (so_putI (C := R_Tx) (T := F_Tx) (N := 39) (j := 6) in_Tx t_Tx_ok n_Tx rfl (by decide) mw_1585 rfl (by decide +kernel) d_Tx_go_320)) (os_n (os_l (so_aload_n d_Tx_go_323 rfl)) (os_l (so_aload_n d_Tx_go_324 rfl))))) (os_n (os_n (os_l (so_get (C := R_Tx) (T := F_Tx) (N := 39) (j := 2) in_Tx rfl (by decide) mw_1581 d_Tx_go_325)) (os_n (os_l (so_callV (iv := mi_Tx_at) rfl rfl rfl mw_2186 mw_2188 sl_112 mw_19 mw_2189 ⟨by decide +kernel, by decide +kernel, by decide +kernel⟩ (by decide) d_Tx_go_328)) (os_l (so_istore_n d_Tx_go_331 rfl (by decide))))) (os_n (os_l (so_iload_n d_Tx_go_332 rfl)) (os_n (os_l (so_callS (iv := mi_Tx_isLetter) rfl mw_2190 mw_2191 mw_19 mw_2192 ⟨by decide +kernel, by decide +kernel, by decide +kernel⟩ (by decide) d_Tx_go_333)) (os_l (so_ifne d_Tx_go_336 (by decide)))))))) (os_n (os_n (os_n (os_n (os_l (so_iload_n d_Tx_go_339 rfl)) (os_n (os_l (so_callS (iv := mi_Tx_isDigit) rfl mw_2193 mw_2194 mw_19 mw_2195 ⟨by decide +kernel, by decide +kernel, by decide +kernel⟩ (by decide) d_Tx_go_340)) (os_l (so_ifne d_Tx_go_343 (by decide))))) (os_n (os_l (so_iload_n d_Tx_go_346 rfl)) (os_n (os_l (so_bipush d_Tx_go_347 (by decide))) (os_l (so_icne d_Tx_go_349 (by decide)))))) (os_n (os_n (os_l (so_aload_n d_Tx_go_352 rfl)) (os_n (os_l (so_aload_n d_Tx_go_353 rfl)) (os_l (so_get (C := R_Tx) (T := F_Tx) (N := 39) (j := 2) in_Tx rfl (by decide) mw_1581 d_Tx_go_354)))) (os_n (os_l (so_putI (C := R_Tx) (T := F_Tx) (N := 39) (j := 10) in_Tx t_Tx_ok n_Tx rfl (by decide) mw_1589 rfl (by decide +kernel) d_Tx_go_357)) (os_n (os_l (so_iconst d_Tx_go_360 (by decide))) (os_l (so_zreturn rfl d_Tx_go_361)))))) (os_n (os_n (os_n (os_l (so_aload_n d_Tx_go_362 rfl)) (os_n (os_l (so_iload_n d_Tx_go_363 rfl)) (os_l (so_callS (iv := mi_Tx_isLetter) rfl mw_2190 mw_2191 mw_19 mw_2192 ⟨by decide +kernel, by decide +kernel, by decide +kernel⟩ (by decide) d_Tx_go_364)))) (os_n (os_l (so_ifeq d_Tx_go_367 (by decide))) (os_n (os_l (so_sipush d_Tx_go_370 (by decide))) (os_l (so_aload_n d_Tx_go_373 rfl))))) (os_n (os_n (os_l (so_callV (iv := mi_Tx_meaning) rfl rfl rfl mw_2204 mw_2206 sl_114 mw_19 mw_2207 ⟨by decide +kernel, by decide +kernel, by decide +kernel⟩ (by decide) d_Tx_go_374)) (os_n (os_l (so_iadd d_Tx_go_377)) (os_l (so_goto d_Tx_go_378 (by decide))))) (os_n (os_n (os_l (so_sipush d_Tx_go_381 (by decide))) (os_l (so_putI (C := R_Tx) (T := F_Tx) (N := 39) (j := 4) in_Tx t_Tx_ok n_Tx rfl (by decide) mw_1583 rfl (by decide +kernel) d_Tx_go_384))) (os_n (os_l (so_iconst d_Tx_go_387 (by decide))) (os_l (so_zreturn rfl d_Tx_go_388))))))))))
