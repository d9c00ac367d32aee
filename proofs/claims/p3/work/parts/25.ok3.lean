abbrev t_Mo_kind_35 : List UInt8 := 172 :: []
abbrev t_Mo_kind_34 : List UInt8 := 46 :: t_Mo_kind_35
abbrev t_Mo_kind_31 : List UInt8 := 182 :: 1 :: 231 :: t_Mo_kind_34
abbrev t_Mo_kind_30 : List UInt8 := 46 :: t_Mo_kind_31
abbrev t_Mo_kind_29 : List UInt8 := 27 :: t_Mo_kind_30
abbrev t_Mo_kind_26 : List UInt8 := 180 :: 0 :: 166 :: t_Mo_kind_29
abbrev t_Mo_kind_25 : List UInt8 := 42 :: t_Mo_kind_26
abbrev t_Mo_kind_22 : List UInt8 := 180 :: 0 :: 16 :: t_Mo_kind_25
abbrev t_Mo_kind_21 : List UInt8 := 42 :: t_Mo_kind_22
abbrev t_Mo_kind_18 : List UInt8 := 180 :: 1 :: 228 :: t_Mo_kind_21
abbrev t_Mo_kind_15 : List UInt8 := 180 :: 0 :: 16 :: t_Mo_kind_18
abbrev t_Mo_kind_14 : List UInt8 := 42 :: t_Mo_kind_15
abbrev t_Mo_kind_11 : List UInt8 := 167 :: 0 :: 24 :: t_Mo_kind_14
abbrev t_Mo_kind_9 : List UInt8 := 16 :: 23 :: t_Mo_kind_11
abbrev t_Mo_kind_6 : List UInt8 := 156 :: 0 :: 8 :: t_Mo_kind_9
abbrev t_Mo_kind_5 : List UInt8 := 46 :: t_Mo_kind_6
abbrev t_Mo_kind_4 : List UInt8 := 27 :: t_Mo_kind_5
abbrev t_Mo_kind_1 : List UInt8 := 180 :: 0 :: 166 :: t_Mo_kind_4
abbrev t_Mo_kind_0 : List UInt8 := 42 :: t_Mo_kind_1
theorem a_Mo_kind_0 : dk_at b_Mo_kind 0 t_Mo_kind_0 := dk_start (by decide +kernel)
theorem a_Mo_kind_1 : dk_at b_Mo_kind 1 t_Mo_kind_1 := dk_go 1 a_Mo_kind_0 rfl
theorem a_Mo_kind_4 : dk_at b_Mo_kind 4 t_Mo_kind_4 := dk_go 3 a_Mo_kind_1 rfl
theorem a_Mo_kind_5 : dk_at b_Mo_kind 5 t_Mo_kind_5 := dk_go 1 a_Mo_kind_4 rfl
theorem a_Mo_kind_6 : dk_at b_Mo_kind 6 t_Mo_kind_6 := dk_go 1 a_Mo_kind_5 rfl
theorem a_Mo_kind_9 : dk_at b_Mo_kind 9 t_Mo_kind_9 := dk_go 3 a_Mo_kind_6 rfl
theorem a_Mo_kind_11 : dk_at b_Mo_kind 11 t_Mo_kind_11 := dk_go 2 a_Mo_kind_9 rfl
theorem a_Mo_kind_14 : dk_at b_Mo_kind 14 t_Mo_kind_14 := dk_go 3 a_Mo_kind_11 rfl
theorem a_Mo_kind_15 : dk_at b_Mo_kind 15 t_Mo_kind_15 := dk_go 1 a_Mo_kind_14 rfl
theorem a_Mo_kind_18 : dk_at b_Mo_kind 18 t_Mo_kind_18 := dk_go 3 a_Mo_kind_15 rfl
theorem a_Mo_kind_21 : dk_at b_Mo_kind 21 t_Mo_kind_21 := dk_go 3 a_Mo_kind_18 rfl
theorem a_Mo_kind_22 : dk_at b_Mo_kind 22 t_Mo_kind_22 := dk_go 1 a_Mo_kind_21 rfl
theorem a_Mo_kind_25 : dk_at b_Mo_kind 25 t_Mo_kind_25 := dk_go 3 a_Mo_kind_22 rfl
theorem a_Mo_kind_26 : dk_at b_Mo_kind 26 t_Mo_kind_26 := dk_go 1 a_Mo_kind_25 rfl
theorem a_Mo_kind_29 : dk_at b_Mo_kind 29 t_Mo_kind_29 := dk_go 3 a_Mo_kind_26 rfl
theorem a_Mo_kind_30 : dk_at b_Mo_kind 30 t_Mo_kind_30 := dk_go 1 a_Mo_kind_29 rfl
theorem a_Mo_kind_31 : dk_at b_Mo_kind 31 t_Mo_kind_31 := dk_go 1 a_Mo_kind_30 rfl
theorem a_Mo_kind_34 : dk_at b_Mo_kind 34 t_Mo_kind_34 := dk_go 3 a_Mo_kind_31 rfl
theorem a_Mo_kind_35 : dk_at b_Mo_kind 35 t_Mo_kind_35 := dk_go 1 a_Mo_kind_34 rfl
theorem d_Mo_kind_0 : decode b_Mo_kind 0 = .ok (.aload_n 0, 1) := dk_0 a_Mo_kind_0 (dko_42 _)
theorem d_Mo_kind_1 : decode b_Mo_kind 1 = .ok (.getfield 166, 3) := dk_U2 a_Mo_kind_1 (dko_180 _) rfl
theorem d_Mo_kind_4 : decode b_Mo_kind 4 = .ok (.iload_n 1, 1) := dk_0 a_Mo_kind_4 (dko_27 _)
theorem d_Mo_kind_5 : decode b_Mo_kind 5 = .ok (.iaload, 1) := dk_0 a_Mo_kind_5 (dko_46 _)
theorem d_Mo_kind_6 : decode b_Mo_kind 6 = .ok (.ifCond .ge 8, 3) := dk_S2 a_Mo_kind_6 (dko_156 _) (by decide +kernel)
theorem d_Mo_kind_9 : decode b_Mo_kind 9 = .ok (.bipush 23, 2) := dk_S1 a_Mo_kind_9 (dko_16 _) (by decide +kernel)
theorem d_Mo_kind_11 : decode b_Mo_kind 11 = .ok (.goto 24, 3) := dk_S2 a_Mo_kind_11 (dko_167 _) (by decide +kernel)
theorem d_Mo_kind_14 : decode b_Mo_kind 14 = .ok (.aload_n 0, 1) := dk_0 a_Mo_kind_14 (dko_42 _)
theorem d_Mo_kind_15 : decode b_Mo_kind 15 = .ok (.getfield 16, 3) := dk_U2 a_Mo_kind_15 (dko_180 _) rfl
theorem d_Mo_kind_18 : decode b_Mo_kind 18 = .ok (.getfield 484, 3) := dk_U2 a_Mo_kind_18 (dko_180 _) rfl
theorem d_Mo_kind_21 : decode b_Mo_kind 21 = .ok (.aload_n 0, 1) := dk_0 a_Mo_kind_21 (dko_42 _)
theorem d_Mo_kind_22 : decode b_Mo_kind 22 = .ok (.getfield 16, 3) := dk_U2 a_Mo_kind_22 (dko_180 _) rfl
theorem d_Mo_kind_25 : decode b_Mo_kind 25 = .ok (.aload_n 0, 1) := dk_0 a_Mo_kind_25 (dko_42 _)
theorem d_Mo_kind_26 : decode b_Mo_kind 26 = .ok (.getfield 166, 3) := dk_U2 a_Mo_kind_26 (dko_180 _) rfl
theorem d_Mo_kind_29 : decode b_Mo_kind 29 = .ok (.iload_n 1, 1) := dk_0 a_Mo_kind_29 (dko_27 _)
theorem d_Mo_kind_30 : decode b_Mo_kind 30 = .ok (.iaload, 1) := dk_0 a_Mo_kind_30 (dko_46 _)
theorem d_Mo_kind_31 : decode b_Mo_kind 31 = .ok (.invokevirtual 487, 3) := dk_U2 a_Mo_kind_31 (dko_182 _) rfl
theorem d_Mo_kind_34 : decode b_Mo_kind 34 = .ok (.iaload, 1) := dk_0 a_Mo_kind_34 (dko_46 _)
theorem d_Mo_kind_35 : decode b_Mo_kind 35 = .ok (.ireturn, 1) := dk_0 a_Mo_kind_35 (dko_172 _)
set_option maxHeartbeats 4000000 in
set_option maxRecDepth 100000 in
theorem ok_Mo_kind (pc : Nat) : OpS mt mi_Mo_kind pc (cs_Mo_kind pc) := (os_n (os_n (os_n (os_n (os_l (so_aload_n d_Mo_kind_0 rfl)) (os_l (so_get (C := R_Mo) (T := F_Mo) (N := 87) (j := 61) in_Mo rfl (by decide) mw_1855 d_Mo_kind_1))) (os_n (os_l (so_iload_n d_Mo_kind_4 rfl)) (os_l (so_iaload d_Mo_kind_5)))) (os_n (os_n (os_l (so_ifge d_Mo_kind_6 (by decide))) (os_l (so_bipush d_Mo_kind_9 (by decide)))) (os_n (os_l (so_goto d_Mo_kind_11 (by decide))) (os_n (os_l (so_aload_n d_Mo_kind_14 rfl)) (os_l (so_get (C := R_Mo) (T := F_Mo) (N := 87) (j := 2) in_Mo rfl (by decide) mw_1796 d_Mo_kind_15)))))) (os_n (os_n (os_n (os_l (so_getN (C := R_Tx) (T := F_Tx) (N := 39) (j := 14) in_Tx rfl (by decide) nw_1595 d_Mo_kind_18)) (os_l (so_aload_n d_Mo_kind_21 rfl))) (os_n (os_l (so_get (C := R_Mo) (T := F_Mo) (N := 87) (j := 2) in_Mo rfl (by decide) mw_1796 d_Mo_kind_22)) (os_n (os_l (so_aload_n d_Mo_kind_25 rfl)) (os_l (so_get (C := R_Mo) (T := F_Mo) (N := 87) (j := 61) in_Mo rfl (by decide) mw_1855 d_Mo_kind_26))))) (os_n (os_n (os_l (so_iload_n d_Mo_kind_29 rfl)) (os_l (so_iaload d_Mo_kind_30))) (os_n (os_l (so_callVN (iv := mi_Tx_node1) rfl rfl rfl nw_2578 mw_2580 sl_175 mw_19 mw_2581 ⟨by decide +kernel, by decide +kernel, by decide +kernel⟩ (by decide) d_Mo_kind_31)) (os_n (os_l (so_iaload d_Mo_kind_34)) (os_l (so_ireturn rfl d_Mo_kind_35)))))))
abbrev t_Mo_kids_16 : List UInt8 := 172 :: []
abbrev t_Mo_kids_15 : List UInt8 := 46 :: t_Mo_kids_16
abbrev t_Mo_kids_12 : List UInt8 := 182 :: 1 :: 231 :: t_Mo_kids_15
abbrev t_Mo_kids_11 : List UInt8 := 27 :: t_Mo_kids_12
abbrev t_Mo_kids_8 : List UInt8 := 180 :: 0 :: 16 :: t_Mo_kids_11
abbrev t_Mo_kids_7 : List UInt8 := 42 :: t_Mo_kids_8
abbrev t_Mo_kids_4 : List UInt8 := 180 :: 1 :: 234 :: t_Mo_kids_7
abbrev t_Mo_kids_1 : List UInt8 := 180 :: 0 :: 16 :: t_Mo_kids_4
abbrev t_Mo_kids_0 : List UInt8 := 42 :: t_Mo_kids_1
theorem a_Mo_kids_0 : dk_at b_Mo_kids 0 t_Mo_kids_0 := dk_start (by decide +kernel)
theorem a_Mo_kids_1 : dk_at b_Mo_kids 1 t_Mo_kids_1 := dk_go 1 a_Mo_kids_0 rfl
theorem a_Mo_kids_4 : dk_at b_Mo_kids 4 t_Mo_kids_4 := dk_go 3 a_Mo_kids_1 rfl
theorem a_Mo_kids_7 : dk_at b_Mo_kids 7 t_Mo_kids_7 := dk_go 3 a_Mo_kids_4 rfl
theorem a_Mo_kids_8 : dk_at b_Mo_kids 8 t_Mo_kids_8 := dk_go 1 a_Mo_kids_7 rfl
theorem a_Mo_kids_11 : dk_at b_Mo_kids 11 t_Mo_kids_11 := dk_go 3 a_Mo_kids_8 rfl
theorem a_Mo_kids_12 : dk_at b_Mo_kids 12 t_Mo_kids_12 := dk_go 1 a_Mo_kids_11 rfl
theorem a_Mo_kids_15 : dk_at b_Mo_kids 15 t_Mo_kids_15 := dk_go 3 a_Mo_kids_12 rfl
theorem a_Mo_kids_16 : dk_at b_Mo_kids 16 t_Mo_kids_16 := dk_go 1 a_Mo_kids_15 rfl
theorem d_Mo_kids_0 : decode b_Mo_kids 0 = .ok (.aload_n 0, 1) := dk_0 a_Mo_kids_0 (dko_42 _)
theorem d_Mo_kids_1 : decode b_Mo_kids 1 = .ok (.getfield 16, 3) := dk_U2 a_Mo_kids_1 (dko_180 _) rfl
theorem d_Mo_kids_4 : decode b_Mo_kids 4 = .ok (.getfield 490, 3) := dk_U2 a_Mo_kids_4 (dko_180 _) rfl
theorem d_Mo_kids_7 : decode b_Mo_kids 7 = .ok (.aload_n 0, 1) := dk_0 a_Mo_kids_7 (dko_42 _)
theorem d_Mo_kids_8 : decode b_Mo_kids 8 = .ok (.getfield 16, 3) := dk_U2 a_Mo_kids_8 (dko_180 _) rfl
theorem d_Mo_kids_11 : decode b_Mo_kids 11 = .ok (.iload_n 1, 1) := dk_0 a_Mo_kids_11 (dko_27 _)
theorem d_Mo_kids_12 : decode b_Mo_kids 12 = .ok (.invokevirtual 487, 3) := dk_U2 a_Mo_kids_12 (dko_182 _) rfl
theorem d_Mo_kids_15 : decode b_Mo_kids 15 = .ok (.iaload, 1) := dk_0 a_Mo_kids_15 (dko_46 _)
theorem d_Mo_kids_16 : decode b_Mo_kids 16 = .ok (.ireturn, 1) := dk_0 a_Mo_kids_16 (dko_172 _)
set_option maxHeartbeats 4000000 in
set_option maxRecDepth 100000 in
theorem ok_Mo_kids (pc : Nat) : OpS mt mi_Mo_kids pc (cs_Mo_kids pc) := (os_n (os_n (os_n (os_l (so_aload_n d_Mo_kids_0 rfl)) (os_l (so_get (C := R_Mo) (T := F_Mo) (N := 87) (j := 2) in_Mo rfl (by decide) mw_1796 d_Mo_kids_1))) (os_n (os_l (so_getN (C := R_Tx) (T := F_Tx) (N := 39) (j := 19) in_Tx rfl (by decide) nw_1602 d_Mo_kids_4)) (os_l (so_aload_n d_Mo_kids_7 rfl)))) (os_n (os_n (os_l (so_get (C := R_Mo) (T := F_Mo) (N := 87) (j := 2) in_Mo rfl (by decide) mw_1796 d_Mo_kids_8)) (os_l (so_iload_n d_Mo_kids_11 rfl))) (os_n (os_l (so_callVN (iv := mi_Tx_node1) rfl rfl rfl nw_2578 mw_2580 sl_175 mw_19 mw_2581 ⟨by decide +kernel, by decide +kernel, by decide +kernel⟩ (by decide) d_Mo_kids_12)) (os_n (os_l (so_iaload d_Mo_kids_15)) (os_l (so_ireturn rfl d_Mo_kids_16))))))
abbrev t_Mo_lay_195 : List UInt8 := 172 :: []
abbrev t_Mo_lay_194 : List UInt8 := 28 :: t_Mo_lay_195
abbrev t_Mo_lay_191 : List UInt8 := 167 :: 255 :: 196 :: t_Mo_lay_194
abbrev t_Mo_lay_188 : List UInt8 := 132 :: 4 :: 1 :: t_Mo_lay_191
abbrev t_Mo_lay_187 : List UInt8 := 62 :: t_Mo_lay_188
abbrev t_Mo_lay_184 : List UInt8 := 182 :: 1 :: 255 :: t_Mo_lay_187
abbrev t_Mo_lay_181 : List UInt8 := 182 :: 1 :: 249 :: t_Mo_lay_184
abbrev t_Mo_lay_179 : List UInt8 := 21 :: 5 :: t_Mo_lay_181
abbrev t_Mo_lay_178 : List UInt8 := 42 :: t_Mo_lay_179
abbrev t_Mo_lay_177 : List UInt8 := 29 :: t_Mo_lay_178
abbrev t_Mo_lay_176 : List UInt8 := 28 :: t_Mo_lay_177
abbrev t_Mo_lay_175 : List UInt8 := 42 :: t_Mo_lay_176
abbrev t_Mo_lay_172 : List UInt8 := 161 :: 0 :: 16 :: t_Mo_lay_175
abbrev t_Mo_lay_170 : List UInt8 := 16 :: 10 :: t_Mo_lay_172
abbrev t_Mo_lay_169 : List UInt8 := 46 :: t_Mo_lay_170
abbrev t_Mo_lay_166 : List UInt8 := 182 :: 1 :: 231 :: t_Mo_lay_169
abbrev t_Mo_lay_164 : List UInt8 := 21 :: 5 :: t_Mo_lay_166
abbrev t_Mo_lay_161 : List UInt8 := 180 :: 0 :: 16 :: t_Mo_lay_164
abbrev t_Mo_lay_160 : List UInt8 := 42 :: t_Mo_lay_161
abbrev t_Mo_lay_157 : List UInt8 := 180 :: 1 :: 228 :: t_Mo_lay_160
abbrev t_Mo_lay_154 : List UInt8 := 180 :: 0 :: 16 :: t_Mo_lay_157
abbrev t_Mo_lay_153 : List UInt8 := 42 :: t_Mo_lay_154
abbrev t_Mo_lay_151 : List UInt8 := 54 :: 5 :: t_Mo_lay_153
abbrev t_Mo_lay_148 : List UInt8 := 182 :: 1 :: 246 :: t_Mo_lay_151
abbrev t_Mo_lay_146 : List UInt8 := 21 :: 4 :: t_Mo_lay_148
abbrev t_Mo_lay_145 : List UInt8 := 27 :: t_Mo_lay_146
abbrev t_Mo_lay_142 : List UInt8 := 180 :: 0 :: 16 :: t_Mo_lay_145
abbrev t_Mo_lay_141 : List UInt8 := 42 :: t_Mo_lay_142
abbrev t_Mo_lay_138 : List UInt8 := 162 :: 0 :: 56 :: t_Mo_lay_141
abbrev t_Mo_lay_135 : List UInt8 := 182 :: 1 :: 252 :: t_Mo_lay_138
abbrev t_Mo_lay_134 : List UInt8 := 27 :: t_Mo_lay_135
abbrev t_Mo_lay_133 : List UInt8 := 42 :: t_Mo_lay_134
abbrev t_Mo_lay_131 : List UInt8 := 21 :: 4 :: t_Mo_lay_133
abbrev t_Mo_lay_129 : List UInt8 := 54 :: 4 :: t_Mo_lay_131
abbrev t_Mo_lay_128 : List UInt8 := 3 :: t_Mo_lay_129
abbrev t_Mo_lay_127 : List UInt8 := 62 :: t_Mo_lay_128
abbrev t_Mo_lay_126 : List UInt8 := 2 :: t_Mo_lay_127
abbrev t_Mo_lay_125 : List UInt8 := 172 :: t_Mo_lay_126
abbrev t_Mo_lay_124 : List UInt8 := 28 :: t_Mo_lay_125
abbrev t_Mo_lay_123 : List UInt8 := 79 :: t_Mo_lay_124
abbrev t_Mo_lay_121 : List UInt8 := 21 :: 4 :: t_Mo_lay_123
abbrev t_Mo_lay_120 : List UInt8 := 28 :: t_Mo_lay_121
abbrev t_Mo_lay_117 : List UInt8 := 180 :: 0 :: 169 :: t_Mo_lay_120
abbrev t_Mo_lay_116 : List UInt8 := 42 :: t_Mo_lay_117
abbrev t_Mo_lay_114 : List UInt8 := 54 :: 4 :: t_Mo_lay_116
abbrev t_Mo_lay_111 : List UInt8 := 182 :: 1 :: 249 :: t_Mo_lay_114
abbrev t_Mo_lay_108 : List UInt8 := 182 :: 1 :: 246 :: t_Mo_lay_111
abbrev t_Mo_lay_107 : List UInt8 := 3 :: t_Mo_lay_108
abbrev t_Mo_lay_106 : List UInt8 := 29 :: t_Mo_lay_107
abbrev t_Mo_lay_103 : List UInt8 := 180 :: 0 :: 16 :: t_Mo_lay_106
abbrev t_Mo_lay_102 : List UInt8 := 42 :: t_Mo_lay_103
abbrev t_Mo_lay_101 : List UInt8 := 42 :: t_Mo_lay_102
abbrev t_Mo_lay_100 : List UInt8 := 62 :: t_Mo_lay_101
abbrev t_Mo_lay_99 : List UInt8 := 46 :: t_Mo_lay_100
abbrev t_Mo_lay_98 : List UInt8 := 96 :: t_Mo_lay_99
abbrev t_Mo_lay_97 : List UInt8 := 136 :: t_Mo_lay_98
abbrev t_Mo_lay_96 : List UInt8 := 47 :: t_Mo_lay_97
abbrev t_Mo_lay_93 : List UInt8 := 182 :: 1 :: 231 :: t_Mo_lay_96
abbrev t_Mo_lay_92 : List UInt8 := 27 :: t_Mo_lay_93
abbrev t_Mo_lay_89 : List UInt8 := 180 :: 0 :: 16 :: t_Mo_lay_92
abbrev t_Mo_lay_88 : List UInt8 := 42 :: t_Mo_lay_89
abbrev t_Mo_lay_85 : List UInt8 := 180 :: 1 :: 243 :: t_Mo_lay_88
abbrev t_Mo_lay_82 : List UInt8 := 180 :: 0 :: 16 :: t_Mo_lay_85
abbrev t_Mo_lay_81 : List UInt8 := 42 :: t_Mo_lay_82
abbrev t_Mo_lay_80 : List UInt8 := 104 :: t_Mo_lay_81
abbrev t_Mo_lay_77 : List UInt8 := 180 :: 1 :: 192 :: t_Mo_lay_80
abbrev t_Mo_lay_74 : List UInt8 := 180 :: 0 :: 16 :: t_Mo_lay_77
abbrev t_Mo_lay_73 : List UInt8 := 42 :: t_Mo_lay_74
abbrev t_Mo_lay_71 : List UInt8 := 16 :: 40 :: t_Mo_lay_73
abbrev t_Mo_lay_68 : List UInt8 := 180 :: 1 :: 240 :: t_Mo_lay_71
abbrev t_Mo_lay_65 : List UInt8 := 180 :: 0 :: 16 :: t_Mo_lay_68
abbrev t_Mo_lay_64 : List UInt8 := 42 :: t_Mo_lay_65
abbrev t_Mo_lay_61 : List UInt8 := 160 :: 0 :: 65 :: t_Mo_lay_64
abbrev t_Mo_lay_59 : List UInt8 := 16 :: 19 :: t_Mo_lay_61
abbrev t_Mo_lay_58 : List UInt8 := 46 :: t_Mo_lay_59
abbrev t_Mo_lay_55 : List UInt8 := 182 :: 1 :: 231 :: t_Mo_lay_58
abbrev t_Mo_lay_54 : List UInt8 := 27 :: t_Mo_lay_55
abbrev t_Mo_lay_51 : List UInt8 := 180 :: 0 :: 16 :: t_Mo_lay_54
abbrev t_Mo_lay_50 : List UInt8 := 42 :: t_Mo_lay_51
abbrev t_Mo_lay_47 : List UInt8 := 180 :: 1 :: 228 :: t_Mo_lay_50
abbrev t_Mo_lay_44 : List UInt8 := 180 :: 0 :: 16 :: t_Mo_lay_47
abbrev t_Mo_lay_43 : List UInt8 := 42 :: t_Mo_lay_44
abbrev t_Mo_lay_42 : List UInt8 := 79 :: t_Mo_lay_43
abbrev t_Mo_lay_41 : List UInt8 := 2 :: t_Mo_lay_42
abbrev t_Mo_lay_40 : List UInt8 := 28 :: t_Mo_lay_41
abbrev t_Mo_lay_37 : List UInt8 := 180 :: 0 :: 172 :: t_Mo_lay_40
abbrev t_Mo_lay_36 : List UInt8 := 42 :: t_Mo_lay_37
abbrev t_Mo_lay_35 : List UInt8 := 79 :: t_Mo_lay_36
abbrev t_Mo_lay_34 : List UInt8 := 2 :: t_Mo_lay_35
abbrev t_Mo_lay_33 : List UInt8 := 28 :: t_Mo_lay_34
abbrev t_Mo_lay_30 : List UInt8 := 180 :: 0 :: 169 :: t_Mo_lay_33
abbrev t_Mo_lay_29 : List UInt8 := 42 :: t_Mo_lay_30
abbrev t_Mo_lay_28 : List UInt8 := 84 :: t_Mo_lay_29
abbrev t_Mo_lay_27 : List UInt8 := 3 :: t_Mo_lay_28
abbrev t_Mo_lay_26 : List UInt8 := 28 :: t_Mo_lay_27
abbrev t_Mo_lay_23 : List UInt8 := 180 :: 0 :: 175 :: t_Mo_lay_26
abbrev t_Mo_lay_22 : List UInt8 := 42 :: t_Mo_lay_23
abbrev t_Mo_lay_21 : List UInt8 := 79 :: t_Mo_lay_22
abbrev t_Mo_lay_20 : List UInt8 := 27 :: t_Mo_lay_21
abbrev t_Mo_lay_19 : List UInt8 := 28 :: t_Mo_lay_20
abbrev t_Mo_lay_16 : List UInt8 := 180 :: 0 :: 166 :: t_Mo_lay_19
abbrev t_Mo_lay_15 : List UInt8 := 42 :: t_Mo_lay_16
abbrev t_Mo_lay_12 : List UInt8 := 181 :: 1 :: 237 :: t_Mo_lay_15
abbrev t_Mo_lay_11 : List UInt8 := 96 :: t_Mo_lay_12
abbrev t_Mo_lay_10 : List UInt8 := 4 :: t_Mo_lay_11
abbrev t_Mo_lay_7 : List UInt8 := 180 :: 1 :: 237 :: t_Mo_lay_10
abbrev t_Mo_lay_6 : List UInt8 := 89 :: t_Mo_lay_7
abbrev t_Mo_lay_5 : List UInt8 := 42 :: t_Mo_lay_6
abbrev t_Mo_lay_4 : List UInt8 := 61 :: t_Mo_lay_5
abbrev t_Mo_lay_1 : List UInt8 := 180 :: 1 :: 237 :: t_Mo_lay_4
abbrev t_Mo_lay_0 : List UInt8 := 42 :: t_Mo_lay_1
theorem a_Mo_lay_0 : dk_at b_Mo_lay 0 t_Mo_lay_0 := dk_start (by decide +kernel)
theorem a_Mo_lay_1 : dk_at b_Mo_lay 1 t_Mo_lay_1 := dk_go 1 a_Mo_lay_0 rfl
theorem a_Mo_lay_4 : dk_at b_Mo_lay 4 t_Mo_lay_4 := dk_go 3 a_Mo_lay_1 rfl
theorem a_Mo_lay_5 : dk_at b_Mo_lay 5 t_Mo_lay_5 := dk_go 1 a_Mo_lay_4 rfl
theorem a_Mo_lay_6 : dk_at b_Mo_lay 6 t_Mo_lay_6 := dk_go 1 a_Mo_lay_5 rfl
theorem a_Mo_lay_7 : dk_at b_Mo_lay 7 t_Mo_lay_7 := dk_go 1 a_Mo_lay_6 rfl
theorem a_Mo_lay_10 : dk_at b_Mo_lay 10 t_Mo_lay_10 := dk_go 3 a_Mo_lay_7 rfl
theorem a_Mo_lay_11 : dk_at b_Mo_lay 11 t_Mo_lay_11 := dk_go 1 a_Mo_lay_10 rfl
theorem a_Mo_lay_12 : dk_at b_Mo_lay 12 t_Mo_lay_12 := dk_go 1 a_Mo_lay_11 rfl
theorem a_Mo_lay_15 : dk_at b_Mo_lay 15 t_Mo_lay_15 := dk_go 3 a_Mo_lay_12 rfl
theorem a_Mo_lay_16 : dk_at b_Mo_lay 16 t_Mo_lay_16 := dk_go 1 a_Mo_lay_15 rfl
theorem a_Mo_lay_19 : dk_at b_Mo_lay 19 t_Mo_lay_19 := dk_go 3 a_Mo_lay_16 rfl
theorem a_Mo_lay_20 : dk_at b_Mo_lay 20 t_Mo_lay_20 := dk_go 1 a_Mo_lay_19 rfl
theorem a_Mo_lay_21 : dk_at b_Mo_lay 21 t_Mo_lay_21 := dk_go 1 a_Mo_lay_20 rfl
theorem a_Mo_lay_22 : dk_at b_Mo_lay 22 t_Mo_lay_22 := dk_go 1 a_Mo_lay_21 rfl
theorem a_Mo_lay_23 : dk_at b_Mo_lay 23 t_Mo_lay_23 := dk_go 1 a_Mo_lay_22 rfl
theorem a_Mo_lay_26 : dk_at b_Mo_lay 26 t_Mo_lay_26 := dk_go 3 a_Mo_lay_23 rfl
theorem a_Mo_lay_27 : dk_at b_Mo_lay 27 t_Mo_lay_27 := dk_go 1 a_Mo_lay_26 rfl
theorem a_Mo_lay_28 : dk_at b_Mo_lay 28 t_Mo_lay_28 := dk_go 1 a_Mo_lay_27 rfl
theorem a_Mo_lay_29 : dk_at b_Mo_lay 29 t_Mo_lay_29 := dk_go 1 a_Mo_lay_28 rfl
theorem a_Mo_lay_30 : dk_at b_Mo_lay 30 t_Mo_lay_30 := dk_go 1 a_Mo_lay_29 rfl
theorem a_Mo_lay_33 : dk_at b_Mo_lay 33 t_Mo_lay_33 := dk_go 3 a_Mo_lay_30 rfl
theorem a_Mo_lay_34 : dk_at b_Mo_lay 34 t_Mo_lay_34 := dk_go 1 a_Mo_lay_33 rfl
theorem a_Mo_lay_35 : dk_at b_Mo_lay 35 t_Mo_lay_35 := dk_go 1 a_Mo_lay_34 rfl
theorem a_Mo_lay_36 : dk_at b_Mo_lay 36 t_Mo_lay_36 := dk_go 1 a_Mo_lay_35 rfl
theorem a_Mo_lay_37 : dk_at b_Mo_lay 37 t_Mo_lay_37 := dk_go 1 a_Mo_lay_36 rfl
theorem a_Mo_lay_40 : dk_at b_Mo_lay 40 t_Mo_lay_40 := dk_go 3 a_Mo_lay_37 rfl
theorem a_Mo_lay_41 : dk_at b_Mo_lay 41 t_Mo_lay_41 := dk_go 1 a_Mo_lay_40 rfl
theorem a_Mo_lay_42 : dk_at b_Mo_lay 42 t_Mo_lay_42 := dk_go 1 a_Mo_lay_41 rfl
theorem a_Mo_lay_43 : dk_at b_Mo_lay 43 t_Mo_lay_43 := dk_go 1 a_Mo_lay_42 rfl
theorem a_Mo_lay_44 : dk_at b_Mo_lay 44 t_Mo_lay_44 := dk_go 1 a_Mo_lay_43 rfl
theorem a_Mo_lay_47 : dk_at b_Mo_lay 47 t_Mo_lay_47 := dk_go 3 a_Mo_lay_44 rfl
theorem a_Mo_lay_50 : dk_at b_Mo_lay 50 t_Mo_lay_50 := dk_go 3 a_Mo_lay_47 rfl
theorem a_Mo_lay_51 : dk_at b_Mo_lay 51 t_Mo_lay_51 := dk_go 1 a_Mo_lay_50 rfl
theorem a_Mo_lay_54 : dk_at b_Mo_lay 54 t_Mo_lay_54 := dk_go 3 a_Mo_lay_51 rfl
theorem a_Mo_lay_55 : dk_at b_Mo_lay 55 t_Mo_lay_55 := dk_go 1 a_Mo_lay_54 rfl
theorem a_Mo_lay_58 : dk_at b_Mo_lay 58 t_Mo_lay_58 := dk_go 3 a_Mo_lay_55 rfl
theorem a_Mo_lay_59 : dk_at b_Mo_lay 59 t_Mo_lay_59 := dk_go 1 a_Mo_lay_58 rfl
theorem a_Mo_lay_61 : dk_at b_Mo_lay 61 t_Mo_lay_61 := dk_go 2 a_Mo_lay_59 rfl
theorem a_Mo_lay_64 : dk_at b_Mo_lay 64 t_Mo_lay_64 := dk_go 3 a_Mo_lay_61 rfl
theorem a_Mo_lay_65 : dk_at b_Mo_lay 65 t_Mo_lay_65 := dk_go 1 a_Mo_lay_64 rfl
theorem a_Mo_lay_68 : dk_at b_Mo_lay 68 t_Mo_lay_68 := dk_go 3 a_Mo_lay_65 rfl
theorem a_Mo_lay_71 : dk_at b_Mo_lay 71 t_Mo_lay_71 := dk_go 3 a_Mo_lay_68 rfl
theorem a_Mo_lay_73 : dk_at b_Mo_lay 73 t_Mo_lay_73 := dk_go 2 a_Mo_lay_71 rfl
theorem a_Mo_lay_74 : dk_at b_Mo_lay 74 t_Mo_lay_74 := dk_go 1 a_Mo_lay_73 rfl
theorem a_Mo_lay_77 : dk_at b_Mo_lay 77 t_Mo_lay_77 := dk_go 3 a_Mo_lay_74 rfl
theorem a_Mo_lay_80 : dk_at b_Mo_lay 80 t_Mo_lay_80 := dk_go 3 a_Mo_lay_77 rfl
theorem a_Mo_lay_81 : dk_at b_Mo_lay 81 t_Mo_lay_81 := dk_go 1 a_Mo_lay_80 rfl
theorem a_Mo_lay_82 : dk_at b_Mo_lay 82 t_Mo_lay_82 := dk_go 1 a_Mo_lay_81 rfl
theorem a_Mo_lay_85 : dk_at b_Mo_lay 85 t_Mo_lay_85 := dk_go 3 a_Mo_lay_82 rfl
theorem a_Mo_lay_88 : dk_at b_Mo_lay 88 t_Mo_lay_88 := dk_go 3 a_Mo_lay_85 rfl
theorem a_Mo_lay_89 : dk_at b_Mo_lay 89 t_Mo_lay_89 := dk_go 1 a_Mo_lay_88 rfl
theorem a_Mo_lay_92 : dk_at b_Mo_lay 92 t_Mo_lay_92 := dk_go 3 a_Mo_lay_89 rfl
theorem a_Mo_lay_93 : dk_at b_Mo_lay 93 t_Mo_lay_93 := dk_go 1 a_Mo_lay_92 rfl
theorem a_Mo_lay_96 : dk_at b_Mo_lay 96 t_Mo_lay_96 := dk_go 3 a_Mo_lay_93 rfl
theorem a_Mo_lay_97 : dk_at b_Mo_lay 97 t_Mo_lay_97 := dk_go 1 a_Mo_lay_96 rfl
theorem a_Mo_lay_98 : dk_at b_Mo_lay 98 t_Mo_lay_98 := dk_go 1 a_Mo_lay_97 rfl
theorem a_Mo_lay_99 : dk_at b_Mo_lay 99 t_Mo_lay_99 := dk_go 1 a_Mo_lay_98 rfl
theorem a_Mo_lay_100 : dk_at b_Mo_lay 100 t_Mo_lay_100 := dk_go 1 a_Mo_lay_99 rfl
theorem a_Mo_lay_101 : dk_at b_Mo_lay 101 t_Mo_lay_101 := dk_go 1 a_Mo_lay_100 rfl
theorem a_Mo_lay_102 : dk_at b_Mo_lay 102 t_Mo_lay_102 := dk_go 1 a_Mo_lay_101 rfl
theorem a_Mo_lay_103 : dk_at b_Mo_lay 103 t_Mo_lay_103 := dk_go 1 a_Mo_lay_102 rfl
theorem a_Mo_lay_106 : dk_at b_Mo_lay 106 t_Mo_lay_106 := dk_go 3 a_Mo_lay_103 rfl
theorem a_Mo_lay_107 : dk_at b_Mo_lay 107 t_Mo_lay_107 := dk_go 1 a_Mo_lay_106 rfl
theorem a_Mo_lay_108 : dk_at b_Mo_lay 108 t_Mo_lay_108 := dk_go 1 a_Mo_lay_107 rfl
theorem a_Mo_lay_111 : dk_at b_Mo_lay 111 t_Mo_lay_111 := dk_go 3 a_Mo_lay_108 rfl
theorem a_Mo_lay_114 : dk_at b_Mo_lay 114 t_Mo_lay_114 := dk_go 3 a_Mo_lay_111 rfl
theorem a_Mo_lay_116 : dk_at b_Mo_lay 116 t_Mo_lay_116 := dk_go 2 a_Mo_lay_114 rfl
theorem a_Mo_lay_117 : dk_at b_Mo_lay 117 t_Mo_lay_117 := dk_go 1 a_Mo_lay_116 rfl
theorem a_Mo_lay_120 : dk_at b_Mo_lay 120 t_Mo_lay_120 := dk_go 3 a_Mo_lay_117 rfl
theorem a_Mo_lay_121 : dk_at b_Mo_lay 121 t_Mo_lay_121 := dk_go 1 a_Mo_lay_120 rfl
theorem a_Mo_lay_123 : dk_at b_Mo_lay 123 t_Mo_lay_123 := dk_go 2 a_Mo_lay_121 rfl
theorem a_Mo_lay_124 : dk_at b_Mo_lay 124 t_Mo_lay_124 := dk_go 1 a_Mo_lay_123 rfl
theorem a_Mo_lay_125 : dk_at b_Mo_lay 125 t_Mo_lay_125 := dk_go 1 a_Mo_lay_124 rfl
theorem a_Mo_lay_126 : dk_at b_Mo_lay 126 t_Mo_lay_126 := dk_go 1 a_Mo_lay_125 rfl
theorem a_Mo_lay_127 : dk_at b_Mo_lay 127 t_Mo_lay_127 := dk_go 1 a_Mo_lay_126 rfl
theorem a_Mo_lay_128 : dk_at b_Mo_lay 128 t_Mo_lay_128 := dk_go 1 a_Mo_lay_127 rfl
theorem a_Mo_lay_129 : dk_at b_Mo_lay 129 t_Mo_lay_129 := dk_go 1 a_Mo_lay_128 rfl
theorem a_Mo_lay_131 : dk_at b_Mo_lay 131 t_Mo_lay_131 := dk_go 2 a_Mo_lay_129 rfl
theorem a_Mo_lay_133 : dk_at b_Mo_lay 133 t_Mo_lay_133 := dk_go 2 a_Mo_lay_131 rfl
theorem a_Mo_lay_134 : dk_at b_Mo_lay 134 t_Mo_lay_134 := dk_go 1 a_Mo_lay_133 rfl
theorem a_Mo_lay_135 : dk_at b_Mo_lay 135 t_Mo_lay_135 := dk_go 1 a_Mo_lay_134 rfl
theorem a_Mo_lay_138 : dk_at b_Mo_lay 138 t_Mo_lay_138 := dk_go 3 a_Mo_lay_135 rfl
theorem a_Mo_lay_141 : dk_at b_Mo_lay 141 t_Mo_lay_141 := dk_go 3 a_Mo_lay_138 rfl
theorem a_Mo_lay_142 : dk_at b_Mo_lay 142 t_Mo_lay_142 := dk_go 1 a_Mo_lay_141 rfl
theorem a_Mo_lay_145 : dk_at b_Mo_lay 145 t_Mo_lay_145 := dk_go 3 a_Mo_lay_142 rfl
theorem a_Mo_lay_146 : dk_at b_Mo_lay 146 t_Mo_lay_146 := dk_go 1 a_Mo_lay_145 rfl
theorem a_Mo_lay_148 : dk_at b_Mo_lay 148 t_Mo_lay_148 := dk_go 2 a_Mo_lay_146 rfl
theorem a_Mo_lay_151 : dk_at b_Mo_lay 151 t_Mo_lay_151 := dk_go 3 a_Mo_lay_148 rfl
theorem a_Mo_lay_153 : dk_at b_Mo_lay 153 t_Mo_lay_153 := dk_go 2 a_Mo_lay_151 rfl
theorem a_Mo_lay_154 : dk_at b_Mo_lay 154 t_Mo_lay_154 := dk_go 1 a_Mo_lay_153 rfl
theorem a_Mo_lay_157 : dk_at b_Mo_lay 157 t_Mo_lay_157 := dk_go 3 a_Mo_lay_154 rfl
theorem a_Mo_lay_160 : dk_at b_Mo_lay 160 t_Mo_lay_160 := dk_go 3 a_Mo_lay_157 rfl
theorem a_Mo_lay_161 : dk_at b_Mo_lay 161 t_Mo_lay_161 := dk_go 1 a_Mo_lay_160 rfl
theorem a_Mo_lay_164 : dk_at b_Mo_lay 164 t_Mo_lay_164 := dk_go 3 a_Mo_lay_161 rfl
theorem a_Mo_lay_166 : dk_at b_Mo_lay 166 t_Mo_lay_166 := dk_go 2 a_Mo_lay_164 rfl
theorem a_Mo_lay_169 : dk_at b_Mo_lay 169 t_Mo_lay_169 := dk_go 3 a_Mo_lay_166 rfl
theorem a_Mo_lay_170 : dk_at b_Mo_lay 170 t_Mo_lay_170 := dk_go 1 a_Mo_lay_169 rfl
theorem a_Mo_lay_172 : dk_at b_Mo_lay 172 t_Mo_lay_172 := dk_go 2 a_Mo_lay_170 rfl
theorem a_Mo_lay_175 : dk_at b_Mo_lay 175 t_Mo_lay_175 := dk_go 3 a_Mo_lay_172 rfl
theorem a_Mo_lay_176 : dk_at b_Mo_lay 176 t_Mo_lay_176 := dk_go 1 a_Mo_lay_175 rfl
theorem a_Mo_lay_177 : dk_at b_Mo_lay 177 t_Mo_lay_177 := dk_go 1 a_Mo_lay_176 rfl
theorem a_Mo_lay_178 : dk_at b_Mo_lay 178 t_Mo_lay_178 := dk_go 1 a_Mo_lay_177 rfl
theorem a_Mo_lay_179 : dk_at b_Mo_lay 179 t_Mo_lay_179 := dk_go 1 a_Mo_lay_178 rfl
theorem a_Mo_lay_181 : dk_at b_Mo_lay 181 t_Mo_lay_181 := dk_go 2 a_Mo_lay_179 rfl
theorem a_Mo_lay_184 : dk_at b_Mo_lay 184 t_Mo_lay_184 := dk_go 3 a_Mo_lay_181 rfl
theorem a_Mo_lay_187 : dk_at b_Mo_lay 187 t_Mo_lay_187 := dk_go 3 a_Mo_lay_184 rfl
theorem a_Mo_lay_188 : dk_at b_Mo_lay 188 t_Mo_lay_188 := dk_go 1 a_Mo_lay_187 rfl
theorem a_Mo_lay_191 : dk_at b_Mo_lay 191 t_Mo_lay_191 := dk_go 3 a_Mo_lay_188 rfl
theorem a_Mo_lay_194 : dk_at b_Mo_lay 194 t_Mo_lay_194 := dk_go 3 a_Mo_lay_191 rfl
theorem a_Mo_lay_195 : dk_at b_Mo_lay 195 t_Mo_lay_195 := dk_go 1 a_Mo_lay_194 rfl
theorem d_Mo_lay_0 : decode b_Mo_lay 0 = .ok (.aload_n 0, 1) := dk_0 a_Mo_lay_0 (dko_42 _)
theorem d_Mo_lay_1 : decode b_Mo_lay 1 = .ok (.getfield 493, 3) := dk_U2 a_Mo_lay_1 (dko_180 _) rfl
theorem d_Mo_lay_4 : decode b_Mo_lay 4 = .ok (.istore_n 2, 1) := dk_0 a_Mo_lay_4 (dko_61 _)
theorem d_Mo_lay_5 : decode b_Mo_lay 5 = .ok (.aload_n 0, 1) := dk_0 a_Mo_lay_5 (dko_42 _)
theorem d_Mo_lay_6 : decode b_Mo_lay 6 = .ok (.dup, 1) := dk_0 a_Mo_lay_6 (dko_89 _)
theorem d_Mo_lay_7 : decode b_Mo_lay 7 = .ok (.getfield 493, 3) := dk_U2 a_Mo_lay_7 (dko_180 _) rfl
theorem d_Mo_lay_10 : decode b_Mo_lay 10 = .ok (.iconst 1, 1) := dk_0 a_Mo_lay_10 (dko_4 _)
theorem d_Mo_lay_11 : decode b_Mo_lay 11 = .ok (.iadd, 1) := dk_0 a_Mo_lay_11 (dko_96 _)
theorem d_Mo_lay_12 : decode b_Mo_lay 12 = .ok (.putfield 493, 3) := dk_U2 a_Mo_lay_12 (dko_181 _) rfl
theorem d_Mo_lay_15 : decode b_Mo_lay 15 = .ok (.aload_n 0, 1) := dk_0 a_Mo_lay_15 (dko_42 _)
theorem d_Mo_lay_16 : decode b_Mo_lay 16 = .ok (.getfield 166, 3) := dk_U2 a_Mo_lay_16 (dko_180 _) rfl
theorem d_Mo_lay_19 : decode b_Mo_lay 19 = .ok (.iload_n 2, 1) := dk_0 a_Mo_lay_19 (dko_28 _)
theorem d_Mo_lay_20 : decode b_Mo_lay 20 = .ok (.iload_n 1, 1) := dk_0 a_Mo_lay_20 (dko_27 _)
theorem d_Mo_lay_21 : decode b_Mo_lay 21 = .ok (.iastore, 1) := dk_0 a_Mo_lay_21 (dko_79 _)
theorem d_Mo_lay_22 : decode b_Mo_lay 22 = .ok (.aload_n 0, 1) := dk_0 a_Mo_lay_22 (dko_42 _)
theorem d_Mo_lay_23 : decode b_Mo_lay 23 = .ok (.getfield 175, 3) := dk_U2 a_Mo_lay_23 (dko_180 _) rfl
theorem d_Mo_lay_26 : decode b_Mo_lay 26 = .ok (.iload_n 2, 1) := dk_0 a_Mo_lay_26 (dko_28 _)
theorem d_Mo_lay_27 : decode b_Mo_lay 27 = .ok (.iconst 0, 1) := dk_0 a_Mo_lay_27 (dko_3 _)
theorem d_Mo_lay_28 : decode b_Mo_lay 28 = .ok (.bastore, 1) := dk_0 a_Mo_lay_28 (dko_84 _)
theorem d_Mo_lay_29 : decode b_Mo_lay 29 = .ok (.aload_n 0, 1) := dk_0 a_Mo_lay_29 (dko_42 _)
theorem d_Mo_lay_30 : decode b_Mo_lay 30 = .ok (.getfield 169, 3) := dk_U2 a_Mo_lay_30 (dko_180 _) rfl
theorem d_Mo_lay_33 : decode b_Mo_lay 33 = .ok (.iload_n 2, 1) := dk_0 a_Mo_lay_33 (dko_28 _)
theorem d_Mo_lay_34 : decode b_Mo_lay 34 = .ok (.iconst (-1), 1) := dk_0 a_Mo_lay_34 (dko_2 _)
theorem d_Mo_lay_35 : decode b_Mo_lay 35 = .ok (.iastore, 1) := dk_0 a_Mo_lay_35 (dko_79 _)
theorem d_Mo_lay_36 : decode b_Mo_lay 36 = .ok (.aload_n 0, 1) := dk_0 a_Mo_lay_36 (dko_42 _)
theorem d_Mo_lay_37 : decode b_Mo_lay 37 = .ok (.getfield 172, 3) := dk_U2 a_Mo_lay_37 (dko_180 _) rfl
theorem d_Mo_lay_40 : decode b_Mo_lay 40 = .ok (.iload_n 2, 1) := dk_0 a_Mo_lay_40 (dko_28 _)
theorem d_Mo_lay_41 : decode b_Mo_lay 41 = .ok (.iconst (-1), 1) := dk_0 a_Mo_lay_41 (dko_2 _)
theorem d_Mo_lay_42 : decode b_Mo_lay 42 = .ok (.iastore, 1) := dk_0 a_Mo_lay_42 (dko_79 _)
theorem d_Mo_lay_43 : decode b_Mo_lay 43 = .ok (.aload_n 0, 1) := dk_0 a_Mo_lay_43 (dko_42 _)
theorem d_Mo_lay_44 : decode b_Mo_lay 44 = .ok (.getfield 16, 3) := dk_U2 a_Mo_lay_44 (dko_180 _) rfl
theorem d_Mo_lay_47 : decode b_Mo_lay 47 = .ok (.getfield 484, 3) := dk_U2 a_Mo_lay_47 (dko_180 _) rfl
theorem d_Mo_lay_50 : decode b_Mo_lay 50 = .ok (.aload_n 0, 1) := dk_0 a_Mo_lay_50 (dko_42 _)
theorem d_Mo_lay_51 : decode b_Mo_lay 51 = .ok (.getfield 16, 3) := dk_U2 a_Mo_lay_51 (dko_180 _) rfl
theorem d_Mo_lay_54 : decode b_Mo_lay 54 = .ok (.iload_n 1, 1) := dk_0 a_Mo_lay_54 (dko_27 _)
theorem d_Mo_lay_55 : decode b_Mo_lay 55 = .ok (.invokevirtual 487, 3) := dk_U2 a_Mo_lay_55 (dko_182 _) rfl
theorem d_Mo_lay_58 : decode b_Mo_lay 58 = .ok (.iaload, 1) := dk_0 a_Mo_lay_58 (dko_46 _)
theorem d_Mo_lay_59 : decode b_Mo_lay 59 = .ok (.bipush 19, 2) := dk_S1 a_Mo_lay_59 (dko_16 _) (by decide +kernel)
theorem d_Mo_lay_61 : decode b_Mo_lay 61 = .ok (.if_icmp .ne 65, 3) := dk_S2 a_Mo_lay_61 (dko_160 _) (by decide +kernel)
theorem d_Mo_lay_64 : decode b_Mo_lay 64 = .ok (.aload_n 0, 1) := dk_0 a_Mo_lay_64 (dko_42 _)
theorem d_Mo_lay_65 : decode b_Mo_lay 65 = .ok (.getfield 16, 3) := dk_U2 a_Mo_lay_65 (dko_180 _) rfl
theorem d_Mo_lay_68 : decode b_Mo_lay 68 = .ok (.getfield 496, 3) := dk_U2 a_Mo_lay_68 (dko_180 _) rfl
theorem d_Mo_lay_71 : decode b_Mo_lay 71 = .ok (.bipush 40, 2) := dk_S1 a_Mo_lay_71 (dko_16 _) (by decide +kernel)
theorem d_Mo_lay_73 : decode b_Mo_lay 73 = .ok (.aload_n 0, 1) := dk_0 a_Mo_lay_73 (dko_42 _)
theorem d_Mo_lay_74 : decode b_Mo_lay 74 = .ok (.getfield 16, 3) := dk_U2 a_Mo_lay_74 (dko_180 _) rfl
theorem d_Mo_lay_77 : decode b_Mo_lay 77 = .ok (.getfield 448, 3) := dk_U2 a_Mo_lay_77 (dko_180 _) rfl
theorem d_Mo_lay_80 : decode b_Mo_lay 80 = .ok (.imul, 1) := dk_0 a_Mo_lay_80 (dko_104 _)
theorem d_Mo_lay_81 : decode b_Mo_lay 81 = .ok (.aload_n 0, 1) := dk_0 a_Mo_lay_81 (dko_42 _)
theorem d_Mo_lay_82 : decode b_Mo_lay 82 = .ok (.getfield 16, 3) := dk_U2 a_Mo_lay_82 (dko_180 _) rfl
theorem d_Mo_lay_85 : decode b_Mo_lay 85 = .ok (.getfield 499, 3) := dk_U2 a_Mo_lay_85 (dko_180 _) rfl
theorem d_Mo_lay_88 : decode b_Mo_lay 88 = .ok (.aload_n 0, 1) := dk_0 a_Mo_lay_88 (dko_42 _)
theorem d_Mo_lay_89 : decode b_Mo_lay 89 = .ok (.getfield 16, 3) := dk_U2 a_Mo_lay_89 (dko_180 _) rfl
theorem d_Mo_lay_92 : decode b_Mo_lay 92 = .ok (.iload_n 1, 1) := dk_0 a_Mo_lay_92 (dko_27 _)
theorem d_Mo_lay_93 : decode b_Mo_lay 93 = .ok (.invokevirtual 487, 3) := dk_U2 a_Mo_lay_93 (dko_182 _) rfl
theorem d_Mo_lay_96 : decode b_Mo_lay 96 = .ok (.laload, 1) := dk_0 a_Mo_lay_96 (dko_47 _)
theorem d_Mo_lay_97 : decode b_Mo_lay 97 = .ok (.l2i, 1) := dk_0 a_Mo_lay_97 (dko_136 _)
theorem d_Mo_lay_98 : decode b_Mo_lay 98 = .ok (.iadd, 1) := dk_0 a_Mo_lay_98 (dko_96 _)
theorem d_Mo_lay_99 : decode b_Mo_lay 99 = .ok (.iaload, 1) := dk_0 a_Mo_lay_99 (dko_46 _)
theorem d_Mo_lay_100 : decode b_Mo_lay 100 = .ok (.istore_n 3, 1) := dk_0 a_Mo_lay_100 (dko_62 _)
theorem d_Mo_lay_101 : decode b_Mo_lay 101 = .ok (.aload_n 0, 1) := dk_0 a_Mo_lay_101 (dko_42 _)
theorem d_Mo_lay_102 : decode b_Mo_lay 102 = .ok (.aload_n 0, 1) := dk_0 a_Mo_lay_102 (dko_42 _)
theorem d_Mo_lay_103 : decode b_Mo_lay 103 = .ok (.getfield 16, 3) := dk_U2 a_Mo_lay_103 (dko_180 _) rfl
theorem d_Mo_lay_106 : decode b_Mo_lay 106 = .ok (.iload_n 3, 1) := dk_0 a_Mo_lay_106 (dko_29 _)
theorem d_Mo_lay_107 : decode b_Mo_lay 107 = .ok (.iconst 0, 1) := dk_0 a_Mo_lay_107 (dko_3 _)
theorem d_Mo_lay_108 : decode b_Mo_lay 108 = .ok (.invokevirtual 502, 3) := dk_U2 a_Mo_lay_108 (dko_182 _) rfl
theorem d_Mo_lay_111 : decode b_Mo_lay 111 = .ok (.invokevirtual 505, 3) := dk_U2 a_Mo_lay_111 (dko_182 _) rfl
theorem d_Mo_lay_114 : decode b_Mo_lay 114 = .ok (.istore 4, 2) := dk_U1 a_Mo_lay_114 (dko_54 _) rfl
theorem d_Mo_lay_116 : decode b_Mo_lay 116 = .ok (.aload_n 0, 1) := dk_0 a_Mo_lay_116 (dko_42 _)
theorem d_Mo_lay_117 : decode b_Mo_lay 117 = .ok (.getfield 169, 3) := dk_U2 a_Mo_lay_117 (dko_180 _) rfl
theorem d_Mo_lay_120 : decode b_Mo_lay 120 = .ok (.iload_n 2, 1) := dk_0 a_Mo_lay_120 (dko_28 _)
theorem d_Mo_lay_121 : decode b_Mo_lay 121 = .ok (.iload 4, 2) := dk_U1 a_Mo_lay_121 (dko_21 _) rfl
theorem d_Mo_lay_123 : decode b_Mo_lay 123 = .ok (.iastore, 1) := dk_0 a_Mo_lay_123 (dko_79 _)
theorem d_Mo_lay_124 : decode b_Mo_lay 124 = .ok (.iload_n 2, 1) := dk_0 a_Mo_lay_124 (dko_28 _)
theorem d_Mo_lay_125 : decode b_Mo_lay 125 = .ok (.ireturn, 1) := dk_0 a_Mo_lay_125 (dko_172 _)
theorem d_Mo_lay_126 : decode b_Mo_lay 126 = .ok (.iconst (-1), 1) := dk_0 a_Mo_lay_126 (dko_2 _)
theorem d_Mo_lay_127 : decode b_Mo_lay 127 = .ok (.istore_n 3, 1) := dk_0 a_Mo_lay_127 (dko_62 _)
theorem d_Mo_lay_128 : decode b_Mo_lay 128 = .ok (.iconst 0, 1) := dk_0 a_Mo_lay_128 (dko_3 _)
theorem d_Mo_lay_129 : decode b_Mo_lay 129 = .ok (.istore 4, 2) := dk_U1 a_Mo_lay_129 (dko_54 _) rfl
theorem d_Mo_lay_131 : decode b_Mo_lay 131 = .ok (.iload 4, 2) := dk_U1 a_Mo_lay_131 (dko_21 _) rfl
theorem d_Mo_lay_133 : decode b_Mo_lay 133 = .ok (.aload_n 0, 1) := dk_0 a_Mo_lay_133 (dko_42 _)
theorem d_Mo_lay_134 : decode b_Mo_lay 134 = .ok (.iload_n 1, 1) := dk_0 a_Mo_lay_134 (dko_27 _)
theorem d_Mo_lay_135 : decode b_Mo_lay 135 = .ok (.invokevirtual 508, 3) := dk_U2 a_Mo_lay_135 (dko_182 _) rfl
theorem d_Mo_lay_138 : decode b_Mo_lay 138 = .ok (.if_icmp .ge 56, 3) := dk_S2 a_Mo_lay_138 (dko_162 _) (by decide +kernel)
theorem d_Mo_lay_141 : decode b_Mo_lay 141 = .ok (.aload_n 0, 1) := dk_0 a_Mo_lay_141 (dko_42 _)
theorem d_Mo_lay_142 : decode b_Mo_lay 142 = .ok (.getfield 16, 3) := dk_U2 a_Mo_lay_142 (dko_180 _) rfl
theorem d_Mo_lay_145 : decode b_Mo_lay 145 = .ok (.iload_n 1, 1) := dk_0 a_Mo_lay_145 (dko_27 _)
theorem d_Mo_lay_146 : decode b_Mo_lay 146 = .ok (.iload 4, 2) := dk_U1 a_Mo_lay_146 (dko_21 _) rfl
theorem d_Mo_lay_148 : decode b_Mo_lay 148 = .ok (.invokevirtual 502, 3) := dk_U2 a_Mo_lay_148 (dko_182 _) rfl
theorem d_Mo_lay_151 : decode b_Mo_lay 151 = .ok (.istore 5, 2) := dk_U1 a_Mo_lay_151 (dko_54 _) rfl
theorem d_Mo_lay_153 : decode b_Mo_lay 153 = .ok (.aload_n 0, 1) := dk_0 a_Mo_lay_153 (dko_42 _)
theorem d_Mo_lay_154 : decode b_Mo_lay 154 = .ok (.getfield 16, 3) := dk_U2 a_Mo_lay_154 (dko_180 _) rfl
theorem d_Mo_lay_157 : decode b_Mo_lay 157 = .ok (.getfield 484, 3) := dk_U2 a_Mo_lay_157 (dko_180 _) rfl
theorem d_Mo_lay_160 : decode b_Mo_lay 160 = .ok (.aload_n 0, 1) := dk_0 a_Mo_lay_160 (dko_42 _)
theorem d_Mo_lay_161 : decode b_Mo_lay 161 = .ok (.getfield 16, 3) := dk_U2 a_Mo_lay_161 (dko_180 _) rfl
theorem d_Mo_lay_164 : decode b_Mo_lay 164 = .ok (.iload 5, 2) := dk_U1 a_Mo_lay_164 (dko_21 _) rfl
theorem d_Mo_lay_166 : decode b_Mo_lay 166 = .ok (.invokevirtual 487, 3) := dk_U2 a_Mo_lay_166 (dko_182 _) rfl
theorem d_Mo_lay_169 : decode b_Mo_lay 169 = .ok (.iaload, 1) := dk_0 a_Mo_lay_169 (dko_46 _)
theorem d_Mo_lay_170 : decode b_Mo_lay 170 = .ok (.bipush 10, 2) := dk_S1 a_Mo_lay_170 (dko_16 _) (by decide +kernel)
theorem d_Mo_lay_172 : decode b_Mo_lay 172 = .ok (.if_icmp .lt 16, 3) := dk_S2 a_Mo_lay_172 (dko_161 _) (by decide +kernel)
theorem d_Mo_lay_175 : decode b_Mo_lay 175 = .ok (.aload_n 0, 1) := dk_0 a_Mo_lay_175 (dko_42 _)
theorem d_Mo_lay_176 : decode b_Mo_lay 176 = .ok (.iload_n 2, 1) := dk_0 a_Mo_lay_176 (dko_28 _)
theorem d_Mo_lay_177 : decode b_Mo_lay 177 = .ok (.iload_n 3, 1) := dk_0 a_Mo_lay_177 (dko_29 _)
theorem d_Mo_lay_178 : decode b_Mo_lay 178 = .ok (.aload_n 0, 1) := dk_0 a_Mo_lay_178 (dko_42 _)
theorem d_Mo_lay_179 : decode b_Mo_lay 179 = .ok (.iload 5, 2) := dk_U1 a_Mo_lay_179 (dko_21 _) rfl
theorem d_Mo_lay_181 : decode b_Mo_lay 181 = .ok (.invokevirtual 505, 3) := dk_U2 a_Mo_lay_181 (dko_182 _) rfl
theorem d_Mo_lay_184 : decode b_Mo_lay 184 = .ok (.invokevirtual 511, 3) := dk_U2 a_Mo_lay_184 (dko_182 _) rfl
theorem d_Mo_lay_187 : decode b_Mo_lay 187 = .ok (.istore_n 3, 1) := dk_0 a_Mo_lay_187 (dko_62 _)
theorem d_Mo_lay_188 : decode b_Mo_lay 188 = .ok (.iinc 4 1, 3) := dk_US a_Mo_lay_188 (dko_132 _) (by decide +kernel)
theorem d_Mo_lay_191 : decode b_Mo_lay 191 = .ok (.goto (-60), 3) := dk_S2 a_Mo_lay_191 (dko_167 _) (by decide +kernel)
theorem d_Mo_lay_194 : decode b_Mo_lay 194 = .ok (.iload_n 2, 1) := dk_0 a_Mo_lay_194 (dko_28 _)
theorem d_Mo_lay_195 : decode b_Mo_lay 195 = .ok (.ireturn, 1) := dk_0 a_Mo_lay_195 (dko_172 _)
set_option maxHeartbeats 4000000 in
set_option maxRecDepth 100000 in
theorem ok_Mo_lay (pc : Nat) : OpS mt mi_Mo_lay pc (cs_Mo_lay pc) := (os_n (os_n (os_n (os_n (os_n (os_n (os_l (so_aload_n d_Mo_lay_0 rfl)) (os_n (os_l (so_get (C := R_Mo) (T := F_Mo) (N := 87) (j := 60) in_Mo rfl (by decide) mw_1854 d_Mo_lay_1)) (os_l (so_istore_n d_Mo_lay_4 rfl (by decide))))) (os_n (os_l (so_aload_n d_Mo_lay_5 rfl)) (os_n (os_l (so_dup d_Mo_lay_6)) (os_l (so_get (C := R_Mo) (T := F_Mo) (N := 87) (j := 60) in_Mo rfl (by decide) mw_1854 d_Mo_lay_7))))) (os_n (os_n (os_l (so_iconst d_Mo_lay_10 (by decide))) (os_n (os_l (so_iadd d_Mo_lay_11)) (os_l (so_putI (C := R_Mo) (T := F_Mo) (N := 87) (j := 60) in_Mo t_Mo_ok n_Mo rfl (by decide) mw_1854 rfl (by decide +kernel) d_Mo_lay_12)))) (os_n (os_n (os_l (so_aload_n d_Mo_lay_15 rfl)) (os_l (so_get (C := R_Mo) (T := F_Mo) (N := 87) (j := 61) in_Mo rfl (by decide) mw_1855 d_Mo_lay_16))) (os_n (os_l (so_iload_n d_Mo_lay_19 rfl)) (os_l (so_iload_n d_Mo_lay_20 rfl)))))) (os_n (os_n (os_n (os_l (so_iastore d_Mo_lay_21)) (os_n (os_l (so_aload_n d_Mo_lay_22 rfl)) (os_l (so_get (C := R_Mo) (T := F_Mo) (N := 87) (j := 64) in_Mo rfl (by decide) mw_1858 d_Mo_lay_23)))) (os_n (os_n (os_l (so_iload_n d_Mo_lay_26 rfl)) (os_l (so_iconst d_Mo_lay_27 (by decide)))) (os_n (os_l (so_bastore d_Mo_lay_28)) (os_l (so_aload_n d_Mo_lay_29 rfl))))) (os_n (os_n (os_l (so_get (C := R_Mo) (T := F_Mo) (N := 87) (j := 62) in_Mo rfl (by decide) mw_1856 d_Mo_lay_30)) (os_n (os_l (so_iload_n d_Mo_lay_33 rfl)) (os_l (so_iconst d_Mo_lay_34 (by decide))))) (os_n (os_n (os_l (so_iastore d_Mo_lay_35)) (os_l (so_aload_n d_Mo_lay_36 rfl))) (os_n (os_l (so_get (C := R_Mo) (T := F_Mo) (N := 87) (j := 63) in_Mo rfl (by decide) mw_1857 d_Mo_lay_37)) (os_l (so_iload_n d_Mo_lay_40 rfl))))))) (os_n (os_n (os_n (os_n (os_l (so_iconst d_Mo_lay_41 (by decide))) (os_n (os_l (so_iastore d_Mo_lay_42)) (os_l (so_aload_n d_Mo_lay_43 rfl)))) (os_n (os_n (os_l (so_get (C := R_Mo) (T := F_Mo) (N := 87) (j := 2) in_Mo rfl (by decide) mw_1796 d_Mo_lay_44)) (os_l (so_getN (C := R_Tx) (T := F_Tx) (N := 39) (j := 14) in_Tx rfl (by decide) nw_1595 d_Mo_lay_47))) (os_n (os_l (so_aload_n d_Mo_lay_50 rfl)) (os_l (so_get (C := R_Mo) (T := F_Mo) (N := 87) (j := 2) in_Mo rfl (by decide) mw_1796 d_Mo_lay_51))))) (os_n (os_n (os_l (so_iload_n d_Mo_lay_54 rfl)) (os_n (os_l (so_callVN (iv := mi_Tx_node1) rfl rfl rfl nw_2578 mw_2580 sl_175 mw_19 mw_2581 ⟨by decide +kernel, by decide +kernel, by decide +kernel⟩ (by decide) d_Mo_lay_55)) (os_l (so_iaload d_Mo_lay_58)))) (os_n (os_n (os_l (so_bipush d_Mo_lay_59 (by decide))) (os_l (so_icne d_Mo_lay_61 (by decide)))) (os_n (os_l (so_aload_n d_Mo_lay_64 rfl)) (os_l (so_get (C := R_Mo) (T := F_Mo) (N := 87) (j := 2) in_Mo rfl (by decide) mw_1796 d_Mo_lay_65)))))) (os_n (os_n (os_n (os_l (so_getN (C := R_Tx) (T := F_Tx) (N := 39) (j := 29) in_Tx rfl (by decide) nw_1615 d_Mo_lay_68)) (os_n (os_l (so_bipush d_Mo_lay_71 (by decide))) (os_l (so_aload_n d_Mo_lay_73 rfl)))) (os_n (os_n (os_l (so_get (C := R_Mo) (T := F_Mo) (N := 87) (j := 2) in_Mo rfl (by decide) mw_1796 d_Mo_lay_74)) (os_l (so_getN (C := R_Tx) (T := F_Tx) (N := 39) (j := 12) in_Tx rfl (by decide) nw_1592 d_Mo_lay_77))) (os_n (os_l (so_imul d_Mo_lay_80)) (os_l (so_aload_n d_Mo_lay_81 rfl))))) (os_n (os_n (os_l (so_get (C := R_Mo) (T := F_Mo) (N := 87) (j := 2) in_Mo rfl (by decide) mw_1796 d_Mo_lay_82)) (os_n (os_l (so_getN (C := R_Tx) (T := F_Tx) (N := 39) (j := 15) in_Tx rfl (by decide) nw_1597 d_Mo_lay_85)) (os_l (so_aload_n d_Mo_lay_88 rfl)))) (os_n (os_n (os_l (so_get (C := R_Mo) (T := F_Mo) (N := 87) (j := 2) in_Mo rfl (by decide) mw_1796 d_Mo_lay_89)) (os_l (so_iload_n d_Mo_lay_92 rfl))) (os_n (os_l (so_callVN (iv := mi_Tx_node1) rfl rfl rfl nw_2578 mw_2580 sl_175 mw_19 mw_2581 ⟨by decide +kernel, by decide +kernel, by decide +kernel⟩ (by decide) d_Mo_lay_93)) (os_l (so_laload d_Mo_lay_96)))))))) (os_n (os_n (os_n (os_n (os_n (os_l (so_l2i d_Mo_lay_97)) (os_n (os_l (so_iadd d_Mo_lay_98)) (os_l (so_iaload d_Mo_lay_99)))) (os_n (os_n (os_l (so_istore_n d_Mo_lay_100 rfl (by decide))) (os_l (so_aload_n d_Mo_lay_101 rfl))) (os_n (os_l (so_aload_n d_Mo_lay_102 rfl)) (os_l (so_get (C := R_Mo) (T := F_Mo) (N := 87) (j := 2) in_Mo rfl (by decide) mw_1796 d_Mo_lay_103))))) (os_n (os_n (os_l (so_iload_n d_Mo_lay_106 rfl)) (os_n (os_l (so_iconst d_Mo_lay_107 (by decide))) (os_l (so_callVN (iv := mi_Tx_kid) rfl rfl rfl nw_2586 mw_2588 sl_177 mw_19 mw_2589 ⟨by decide +kernel, by decide +kernel, by decide +kernel⟩ (by decide) d_Mo_lay_108)))) (os_n (os_n (os_l (so_callV (iv := mi_Mo_lay) rfl rfl rfl mw_2582 mw_2584 sl_176 mw_18 mw_2585 ⟨by decide +kernel, by decide +kernel, by decide +kernel⟩ (by decide) d_Mo_lay_111)) (os_l (so_istore d_Mo_lay_114 (by decide)))) (os_n (os_l (so_aload_n d_Mo_lay_116 rfl)) (os_l (so_get (C := R_Mo) (T := F_Mo) (N := 87) (j := 62) in_Mo rfl (by decide) mw_1856 d_Mo_lay_117)))))) (os_n (os_n (os_n (os_l (so_iload_n d_Mo_lay_120 rfl)) (os_n (os_l (so_iload d_Mo_lay_121)) (os_l (so_iastore d_Mo_lay_123)))) (os_n (os_n (os_l (so_iload_n d_Mo_lay_124 rfl)) (os_l (so_ireturn rfl d_Mo_lay_125))) (os_n (os_l (so_iconst d_Mo_lay_126 (by decide))) (os_l (so_istore_n d_Mo_lay_127 rfl (by decide)))))) (os_n (os_n (os_l (so_iconst d_Mo_lay_128 (by decide))) (os_n (os_l (so_istore d_Mo_lay_129 (by decide))) (os_l (so_iload d_Mo_lay_131)))) (os_n (os_n (os_l (so_aload_n d_Mo_lay_133 rfl)) (os_l (so_iload_n d_Mo_lay_134 rfl))) (os_n (os_l (so_callV (iv := mi_Mo_kids) rfl rfl rfl mw_2591 mw_2593 sl_178 mw_18 mw_2594 ⟨by decide +kernel, by decide +kernel, by decide +kernel⟩ (by decide) d_Mo_lay_135)) (os_l (so_icge d_Mo_lay_138 (by decide)))))))) (os_n (os_n (os_n (os_n (os_l (so_aload_n d_Mo_lay_141 rfl)) (os_n (os_l (so_get (C := R_Mo) (T := F_Mo) (N := 87) (j := 2) in_Mo rfl (by decide) mw_1796 d_Mo_lay_142)) (os_l (so_iload_n d_Mo_lay_145 rfl)))) (os_n (os_n (os_l (so_iload d_Mo_lay_146)) (os_l (so_callVN (iv := mi_Tx_kid) rfl rfl rfl nw_2586 mw_2588 sl_177 mw_19 mw_2589 ⟨by decide +kernel, by decide +kernel, by decide +kernel⟩ (by decide) d_Mo_lay_148))) (os_n (os_l (so_istore d_Mo_lay_151 (by decide))) (os_l (so_aload_n d_Mo_lay_153 rfl))))) (os_n (os_n (os_l (so_get (C := R_Mo) (T := F_Mo) (N := 87) (j := 2) in_Mo rfl (by decide) mw_1796 d_Mo_lay_154)) (os_n (os_l (so_getN (C := R_Tx) (T := F_Tx) (N := 39) (j := 14) in_Tx rfl (by decide) nw_1595 d_Mo_lay_157)) (os_l (so_aload_n d_Mo_lay_160 rfl)))) (os_n (os_n (os_l (so_get (C := R_Mo) (T := F_Mo) (N := 87) (j := 2) in_Mo rfl (by decide) mw_1796 d_Mo_lay_161)) (os_l (so_iload d_Mo_lay_164))) (os_n (os_l (so_callVN (iv := mi_Tx_node1) rfl rfl rfl nw_2578 mw_2580 sl_175 mw_19 mw_2581 ⟨by decide +kernel, by decide +kernel, by decide +kernel⟩ (by decide) d_Mo_lay_166)) (os_l (so_iaload d_Mo_lay_169)))))) (os_n (os_n (os_n (os_l (so_bipush d_Mo_lay_170 (by decide))) (os_n (os_l (so_iclt d_Mo_lay_172 (by decide))) (os_l (so_aload_n d_Mo_lay_175 rfl)))) (os_n (os_n (os_l (so_iload_n d_Mo_lay_176 rfl)) (os_l (so_iload_n d_Mo_lay_177 rfl))) (os_n (os_l (so_aload_n d_Mo_lay_178 rfl)) (os_l (so_iload d_Mo_lay_179))))) (os_n (os_n (os_l (so_callV (iv := mi_Mo_lay) rfl rfl rfl mw_2582 mw_2584 sl_176 mw_18 mw_2585 ⟨by decide +kernel, by decide +kernel, by decide +kernel⟩ (by decide) d_Mo_lay_181)) (os_n (os_l (so_callV (iv := mi_Mo_hang) rfl rfl rfl mw_2595 mw_2597 sl_179 mw_18 mw_2598 ⟨by decide +kernel, by decide +kernel, by decide +kernel⟩ (by decide) d_Mo_lay_184)) (os_l (so_istore_n d_Mo_lay_187 rfl (by decide))))) (os_n (os_n (os_l (so_iinc d_Mo_lay_188 (by decide) (by decide))) (os_l (so_goto d_Mo_lay_191 (by decide)))) (os_n (os_l (so_iload_n d_Mo_lay_194 rfl)) (os_l (so_ireturn rfl d_Mo_lay_195)))))))))
abbrev t_Mo_hang_23 : List UInt8 := 172 :: []
abbrev t_Mo_hang_22 : List UInt8 := 29 :: t_Mo_hang_23
abbrev t_Mo_hang_21 : List UInt8 := 79 :: t_Mo_hang_22
abbrev t_Mo_hang_20 : List UInt8 := 29 :: t_Mo_hang_21
abbrev t_Mo_hang_19 : List UInt8 := 28 :: t_Mo_hang_20
abbrev t_Mo_hang_16 : List UInt8 := 180 :: 0 :: 172 :: t_Mo_hang_19
abbrev t_Mo_hang_15 : List UInt8 := 42 :: t_Mo_hang_16
abbrev t_Mo_hang_12 : List UInt8 := 167 :: 0 :: 10 :: t_Mo_hang_15
abbrev t_Mo_hang_11 : List UInt8 := 79 :: t_Mo_hang_12
abbrev t_Mo_hang_10 : List UInt8 := 29 :: t_Mo_hang_11
abbrev t_Mo_hang_9 : List UInt8 := 27 :: t_Mo_hang_10
abbrev t_Mo_hang_6 : List UInt8 := 180 :: 0 :: 169 :: t_Mo_hang_9
abbrev t_Mo_hang_5 : List UInt8 := 42 :: t_Mo_hang_6
abbrev t_Mo_hang_2 : List UInt8 := 160 :: 0 :: 13 :: t_Mo_hang_5
abbrev t_Mo_hang_1 : List UInt8 := 2 :: t_Mo_hang_2
abbrev t_Mo_hang_0 : List UInt8 := 28 :: t_Mo_hang_1
theorem a_Mo_hang_0 : dk_at b_Mo_hang 0 t_Mo_hang_0 := dk_start (by decide +kernel)
theorem a_Mo_hang_1 : dk_at b_Mo_hang 1 t_Mo_hang_1 := dk_go 1 a_Mo_hang_0 rfl
theorem a_Mo_hang_2 : dk_at b_Mo_hang 2 t_Mo_hang_2 := dk_go 1 a_Mo_hang_1 rfl
theorem a_Mo_hang_5 : dk_at b_Mo_hang 5 t_Mo_hang_5 := dk_go 3 a_Mo_hang_2 rfl
theorem a_Mo_hang_6 : dk_at b_Mo_hang 6 t_Mo_hang_6 := dk_go 1 a_Mo_hang_5 rfl
theorem a_Mo_hang_9 : dk_at b_Mo_hang 9 t_Mo_hang_9 := dk_go 3 a_Mo_hang_6 rfl
theorem a_Mo_hang_10 : dk_at b_Mo_hang 10 t_Mo_hang_10 := dk_go 1 a_Mo_hang_9 rfl
theorem a_Mo_hang_11 : dk_at b_Mo_hang 11 t_Mo_hang_11 := dk_go 1 a_Mo_hang_10 rfl
theorem a_Mo_hang_12 : dk_at b_Mo_hang 12 t_Mo_hang_12 := dk_go 1 a_Mo_hang_11 rfl
theorem a_Mo_hang_15 : dk_at b_Mo_hang 15 t_Mo_hang_15 := dk_go 3 a_Mo_hang_12 rfl
theorem a_Mo_hang_16 : dk_at b_Mo_hang 16 t_Mo_hang_16 := dk_go 1 a_Mo_hang_15 rfl
theorem a_Mo_hang_19 : dk_at b_Mo_hang 19 t_Mo_hang_19 := dk_go 3 a_Mo_hang_16 rfl
theorem a_Mo_hang_20 : dk_at b_Mo_hang 20 t_Mo_hang_20 := dk_go 1 a_Mo_hang_19 rfl
theorem a_Mo_hang_21 : dk_at b_Mo_hang 21 t_Mo_hang_21 := dk_go 1 a_Mo_hang_20 rfl
theorem a_Mo_hang_22 : dk_at b_Mo_hang 22 t_Mo_hang_22 := dk_go 1 a_Mo_hang_21 rfl
theorem a_Mo_hang_23 : dk_at b_Mo_hang 23 t_Mo_hang_23 := dk_go 1 a_Mo_hang_22 rfl
theorem d_Mo_hang_0 : decode b_Mo_hang 0 = .ok (.iload_n 2, 1) := dk_0 a_Mo_hang_0 (dko_28 _)
theorem d_Mo_hang_1 : decode b_Mo_hang 1 = .ok (.iconst (-1), 1) := dk_0 a_Mo_hang_1 (dko_2 _)
theorem d_Mo_hang_2 : decode b_Mo_hang 2 = .ok (.if_icmp .ne 13, 3) := dk_S2 a_Mo_hang_2 (dko_160 _) (by decide +kernel)
theorem d_Mo_hang_5 : decode b_Mo_hang 5 = .ok (.aload_n 0, 1) := dk_0 a_Mo_hang_5 (dko_42 _)
theorem d_Mo_hang_6 : decode b_Mo_hang 6 = .ok (.getfield 169, 3) := dk_U2 a_Mo_hang_6 (dko_180 _) rfl
theorem d_Mo_hang_9 : decode b_Mo_hang 9 = .ok (.iload_n 1, 1) := dk_0 a_Mo_hang_9 (dko_27 _)
theorem d_Mo_hang_10 : decode b_Mo_hang 10 = .ok (.iload_n 3, 1) := dk_0 a_Mo_hang_10 (dko_29 _)
theorem d_Mo_hang_11 : decode b_Mo_hang 11 = .ok (.iastore, 1) := dk_0 a_Mo_hang_11 (dko_79 _)
theorem d_Mo_hang_12 : decode b_Mo_hang 12 = .ok (.goto 10, 3) := dk_S2 a_Mo_hang_12 (dko_167 _) (by decide +kernel)
theorem d_Mo_hang_15 : decode b_Mo_hang 15 = .ok (.aload_n 0, 1) := dk_0 a_Mo_hang_15 (dko_42 _)
theorem d_Mo_hang_16 : decode b_Mo_hang 16 = .ok (.getfield 172, 3) := dk_U2 a_Mo_hang_16 (dko_180 _) rfl
theorem d_Mo_hang_19 : decode b_Mo_hang 19 = .ok (.iload_n 2, 1) := dk_0 a_Mo_hang_19 (dko_28 _)
theorem d_Mo_hang_20 : decode b_Mo_hang 20 = .ok (.iload_n 3, 1) := dk_0 a_Mo_hang_20 (dko_29 _)
theorem d_Mo_hang_21 : decode b_Mo_hang 21 = .ok (.iastore, 1) := dk_0 a_Mo_hang_21 (dko_79 _)
theorem d_Mo_hang_22 : decode b_Mo_hang 22 = .ok (.iload_n 3, 1) := dk_0 a_Mo_hang_22 (dko_29 _)
theorem d_Mo_hang_23 : decode b_Mo_hang 23 = .ok (.ireturn, 1) := dk_0 a_Mo_hang_23 (dko_172 _)
set_option maxHeartbeats 4000000 in
set_option maxRecDepth 100000 in
theorem ok_Mo_hang (pc : Nat) : OpS mt mi_Mo_hang pc (cs_Mo_hang pc) := (os_n (os_n (os_n (os_n (os_l (so_iload_n d_Mo_hang_0 rfl)) (os_l (so_iconst d_Mo_hang_1 (by decide)))) (os_n (os_l (so_icne d_Mo_hang_2 (by decide))) (os_l (so_aload_n d_Mo_hang_5 rfl)))) (os_n (os_n (os_l (so_get (C := R_Mo) (T := F_Mo) (N := 87) (j := 62) in_Mo rfl (by decide) mw_1856 d_Mo_hang_6)) (os_l (so_iload_n d_Mo_hang_9 rfl))) (os_n (os_l (so_iload_n d_Mo_hang_10 rfl)) (os_l (so_iastore d_Mo_hang_11))))) (os_n (os_n (os_n (os_l (so_goto d_Mo_hang_12 (by decide))) (os_l (so_aload_n d_Mo_hang_15 rfl))) (os_n (os_l (so_get (C := R_Mo) (T := F_Mo) (N := 87) (j := 63) in_Mo rfl (by decide) mw_1857 d_Mo_hang_16)) (os_l (so_iload_n d_Mo_hang_19 rfl)))) (os_n (os_n (os_l (so_iload_n d_Mo_hang_20 rfl)) (os_l (so_iastore d_Mo_hang_21))) (os_n (os_l (so_iload_n d_Mo_hang_22 rfl)) (os_l (so_ireturn rfl d_Mo_hang_23))))))
abbrev t_Mo_start_309 : List UInt8 := 172 :: []
abbrev t_Mo_start_308 : List UInt8 := 4 :: t_Mo_start_309
abbrev t_Mo_start_305 : List UInt8 := 181 :: 1 :: 177 :: t_Mo_start_308
abbrev t_Mo_start_304 : List UInt8 := 3 :: t_Mo_start_305
abbrev t_Mo_start_303 : List UInt8 := 42 :: t_Mo_start_304
abbrev t_Mo_start_300 : List UInt8 := 181 :: 2 :: 8 :: t_Mo_start_303
abbrev t_Mo_start_299 : List UInt8 := 3 :: t_Mo_start_300
abbrev t_Mo_start_298 : List UInt8 := 42 :: t_Mo_start_299
abbrev t_Mo_start_295 : List UInt8 := 181 :: 0 :: 162 :: t_Mo_start_298
abbrev t_Mo_start_294 : List UInt8 := 3 :: t_Mo_start_295
abbrev t_Mo_start_293 : List UInt8 := 42 :: t_Mo_start_294
abbrev t_Mo_start_290 : List UInt8 := 167 :: 255 :: 189 :: t_Mo_start_293
abbrev t_Mo_start_287 : List UInt8 := 132 :: 3 :: 1 :: t_Mo_start_290
abbrev t_Mo_start_286 : List UInt8 := 80 :: t_Mo_start_287
abbrev t_Mo_start_285 : List UInt8 := 9 :: t_Mo_start_286
abbrev t_Mo_start_282 : List UInt8 := 167 :: 0 :: 4 :: t_Mo_start_285
abbrev t_Mo_start_281 : List UInt8 := 47 :: t_Mo_start_282
abbrev t_Mo_start_280 : List UInt8 := 29 :: t_Mo_start_281
abbrev t_Mo_start_277 : List UInt8 := 180 :: 0 :: 159 :: t_Mo_start_280
abbrev t_Mo_start_276 : List UInt8 := 42 :: t_Mo_start_277
abbrev t_Mo_start_273 : List UInt8 := 153 :: 0 :: 12 :: t_Mo_start_276
abbrev t_Mo_start_271 : List UInt8 := 21 :: 4 :: t_Mo_start_273
abbrev t_Mo_start_270 : List UInt8 := 29 :: t_Mo_start_271
abbrev t_Mo_start_267 : List UInt8 := 180 :: 0 :: 159 :: t_Mo_start_270
abbrev t_Mo_start_266 : List UInt8 := 42 :: t_Mo_start_267
abbrev t_Mo_start_264 : List UInt8 := 54 :: 4 :: t_Mo_start_266
abbrev t_Mo_start_263 : List UInt8 := 3 :: t_Mo_start_264
abbrev t_Mo_start_260 : List UInt8 := 167 :: 0 :: 4 :: t_Mo_start_263
abbrev t_Mo_start_259 : List UInt8 := 4 :: t_Mo_start_260
abbrev t_Mo_start_256 : List UInt8 := 162 :: 0 :: 7 :: t_Mo_start_259
abbrev t_Mo_start_255 : List UInt8 := 8 :: t_Mo_start_256
abbrev t_Mo_start_254 : List UInt8 := 46 :: t_Mo_start_255
abbrev t_Mo_start_253 : List UInt8 := 29 :: t_Mo_start_254
abbrev t_Mo_start_250 : List UInt8 := 180 :: 0 :: 144 :: t_Mo_start_253
abbrev t_Mo_start_249 : List UInt8 := 42 :: t_Mo_start_250
abbrev t_Mo_start_246 : List UInt8 := 159 :: 0 :: 17 :: t_Mo_start_249
abbrev t_Mo_start_245 : List UInt8 := 2 :: t_Mo_start_246
abbrev t_Mo_start_244 : List UInt8 := 46 :: t_Mo_start_245
abbrev t_Mo_start_243 : List UInt8 := 29 :: t_Mo_start_244
abbrev t_Mo_start_240 : List UInt8 := 180 :: 0 :: 144 :: t_Mo_start_243
abbrev t_Mo_start_239 : List UInt8 := 42 :: t_Mo_start_240
abbrev t_Mo_start_236 : List UInt8 := 153 :: 0 :: 27 :: t_Mo_start_239
abbrev t_Mo_start_233 : List UInt8 := 182 :: 1 :: 195 :: t_Mo_start_236
abbrev t_Mo_start_231 : List UInt8 := 16 :: 30 :: t_Mo_start_233
abbrev t_Mo_start_230 : List UInt8 := 29 :: t_Mo_start_231
abbrev t_Mo_start_229 : List UInt8 := 42 :: t_Mo_start_230
abbrev t_Mo_start_226 : List UInt8 := 162 :: 0 :: 67 :: t_Mo_start_229
abbrev t_Mo_start_224 : List UInt8 := 16 :: 40 :: t_Mo_start_226
abbrev t_Mo_start_223 : List UInt8 := 29 :: t_Mo_start_224
abbrev t_Mo_start_222 : List UInt8 := 62 :: t_Mo_start_223
abbrev t_Mo_start_221 : List UInt8 := 3 :: t_Mo_start_222
abbrev t_Mo_start_220 : List UInt8 := 79 :: t_Mo_start_221
abbrev t_Mo_start_219 : List UInt8 := 46 :: t_Mo_start_220
abbrev t_Mo_start_218 : List UInt8 := 3 :: t_Mo_start_219
abbrev t_Mo_start_215 : List UInt8 := 180 :: 0 :: 169 :: t_Mo_start_218
abbrev t_Mo_start_214 : List UInt8 := 42 :: t_Mo_start_215
abbrev t_Mo_start_213 : List UInt8 := 3 :: t_Mo_start_214
abbrev t_Mo_start_210 : List UInt8 := 180 :: 0 :: 184 :: t_Mo_start_213
abbrev t_Mo_start_209 : List UInt8 := 42 :: t_Mo_start_210
abbrev t_Mo_start_206 : List UInt8 := 167 :: 255 :: 184 :: t_Mo_start_209
abbrev t_Mo_start_203 : List UInt8 := 132 :: 3 :: 1 :: t_Mo_start_206
abbrev t_Mo_start_202 : List UInt8 := 61 :: t_Mo_start_203
abbrev t_Mo_start_199 : List UInt8 := 182 :: 1 :: 255 :: t_Mo_start_202
abbrev t_Mo_start_196 : List UInt8 := 182 :: 1 :: 249 :: t_Mo_start_199
abbrev t_Mo_start_194 : List UInt8 := 21 :: 4 :: t_Mo_start_196
abbrev t_Mo_start_193 : List UInt8 := 42 :: t_Mo_start_194
abbrev t_Mo_start_192 : List UInt8 := 28 :: t_Mo_start_193
abbrev t_Mo_start_191 : List UInt8 := 3 :: t_Mo_start_192
abbrev t_Mo_start_190 : List UInt8 := 42 :: t_Mo_start_191
abbrev t_Mo_start_187 : List UInt8 := 159 :: 0 :: 16 :: t_Mo_start_190
abbrev t_Mo_start_185 : List UInt8 := 16 :: 24 :: t_Mo_start_187
abbrev t_Mo_start_184 : List UInt8 := 46 :: t_Mo_start_185
abbrev t_Mo_start_181 : List UInt8 := 182 :: 1 :: 231 :: t_Mo_start_184
abbrev t_Mo_start_179 : List UInt8 := 21 :: 4 :: t_Mo_start_181
abbrev t_Mo_start_176 : List UInt8 := 180 :: 0 :: 16 :: t_Mo_start_179
abbrev t_Mo_start_175 : List UInt8 := 42 :: t_Mo_start_176
abbrev t_Mo_start_172 : List UInt8 := 180 :: 1 :: 228 :: t_Mo_start_175
abbrev t_Mo_start_169 : List UInt8 := 180 :: 0 :: 16 :: t_Mo_start_172
abbrev t_Mo_start_168 : List UInt8 := 42 :: t_Mo_start_169
abbrev t_Mo_start_166 : List UInt8 := 54 :: 4 :: t_Mo_start_168
abbrev t_Mo_start_165 : List UInt8 := 46 :: t_Mo_start_166
abbrev t_Mo_start_164 : List UInt8 := 96 :: t_Mo_start_165
abbrev t_Mo_start_163 : List UInt8 := 29 :: t_Mo_start_164
abbrev t_Mo_start_162 : List UInt8 := 104 :: t_Mo_start_163
abbrev t_Mo_start_159 : List UInt8 := 180 :: 1 :: 192 :: t_Mo_start_162
abbrev t_Mo_start_156 : List UInt8 := 180 :: 0 :: 16 :: t_Mo_start_159
abbrev t_Mo_start_155 : List UInt8 := 42 :: t_Mo_start_156
abbrev t_Mo_start_152 : List UInt8 := 17 :: 1 :: 44 :: t_Mo_start_155
abbrev t_Mo_start_149 : List UInt8 := 180 :: 2 :: 5 :: t_Mo_start_152
abbrev t_Mo_start_146 : List UInt8 := 180 :: 0 :: 16 :: t_Mo_start_149
abbrev t_Mo_start_145 : List UInt8 := 42 :: t_Mo_start_146
abbrev t_Mo_start_142 : List UInt8 := 162 :: 0 :: 67 :: t_Mo_start_145
abbrev t_Mo_start_139 : List UInt8 := 180 :: 2 :: 2 :: t_Mo_start_142
abbrev t_Mo_start_136 : List UInt8 := 180 :: 0 :: 16 :: t_Mo_start_139
abbrev t_Mo_start_135 : List UInt8 := 42 :: t_Mo_start_136
abbrev t_Mo_start_134 : List UInt8 := 29 :: t_Mo_start_135
abbrev t_Mo_start_133 : List UInt8 := 62 :: t_Mo_start_134
abbrev t_Mo_start_132 : List UInt8 := 3 :: t_Mo_start_133
abbrev t_Mo_start_131 : List UInt8 := 61 :: t_Mo_start_132
abbrev t_Mo_start_130 : List UInt8 := 2 :: t_Mo_start_131
abbrev t_Mo_start_129 : List UInt8 := 79 :: t_Mo_start_130
abbrev t_Mo_start_128 : List UInt8 := 2 :: t_Mo_start_129
abbrev t_Mo_start_127 : List UInt8 := 3 :: t_Mo_start_128
abbrev t_Mo_start_124 : List UInt8 := 180 :: 0 :: 172 :: t_Mo_start_127
abbrev t_Mo_start_123 : List UInt8 := 42 :: t_Mo_start_124
abbrev t_Mo_start_122 : List UInt8 := 79 :: t_Mo_start_123
abbrev t_Mo_start_121 : List UInt8 := 2 :: t_Mo_start_122
abbrev t_Mo_start_120 : List UInt8 := 3 :: t_Mo_start_121
abbrev t_Mo_start_117 : List UInt8 := 180 :: 0 :: 169 :: t_Mo_start_120
abbrev t_Mo_start_116 : List UInt8 := 42 :: t_Mo_start_117
abbrev t_Mo_start_115 : List UInt8 := 84 :: t_Mo_start_116
abbrev t_Mo_start_114 : List UInt8 := 4 :: t_Mo_start_115
abbrev t_Mo_start_113 : List UInt8 := 3 :: t_Mo_start_114
abbrev t_Mo_start_110 : List UInt8 := 180 :: 0 :: 175 :: t_Mo_start_113
abbrev t_Mo_start_109 : List UInt8 := 42 :: t_Mo_start_110
abbrev t_Mo_start_108 : List UInt8 := 79 :: t_Mo_start_109
abbrev t_Mo_start_107 : List UInt8 := 2 :: t_Mo_start_108
abbrev t_Mo_start_106 : List UInt8 := 3 :: t_Mo_start_107
abbrev t_Mo_start_103 : List UInt8 := 180 :: 0 :: 166 :: t_Mo_start_106
abbrev t_Mo_start_102 : List UInt8 := 42 :: t_Mo_start_103
abbrev t_Mo_start_99 : List UInt8 := 181 :: 1 :: 237 :: t_Mo_start_102
abbrev t_Mo_start_98 : List UInt8 := 4 :: t_Mo_start_99
abbrev t_Mo_start_97 : List UInt8 := 42 :: t_Mo_start_98
abbrev t_Mo_start_94 : List UInt8 := 182 :: 0 :: 231 :: t_Mo_start_97
abbrev t_Mo_start_93 : List UInt8 := 42 :: t_Mo_start_94
abbrev t_Mo_start_90 : List UInt8 := 160 :: 0 :: 7 :: t_Mo_start_93
abbrev t_Mo_start_89 : List UInt8 := 5 :: t_Mo_start_90
abbrev t_Mo_start_86 : List UInt8 := 180 :: 0 :: 162 :: t_Mo_start_89
abbrev t_Mo_start_85 : List UInt8 := 42 :: t_Mo_start_86
abbrev t_Mo_start_82 : List UInt8 := 153 :: 0 :: 11 :: t_Mo_start_85
abbrev t_Mo_start_79 : List UInt8 := 180 :: 0 :: 162 :: t_Mo_start_82
abbrev t_Mo_start_78 : List UInt8 := 42 :: t_Mo_start_79
abbrev t_Mo_start_77 : List UInt8 := 172 :: t_Mo_start_78
abbrev t_Mo_start_76 : List UInt8 := 3 :: t_Mo_start_77
abbrev t_Mo_start_73 : List UInt8 := 154 :: 0 :: 5 :: t_Mo_start_76
abbrev t_Mo_start_72 : List UInt8 := 27 :: t_Mo_start_73
abbrev t_Mo_start_69 : List UInt8 := 167 :: 255 :: 191 :: t_Mo_start_72
abbrev t_Mo_start_66 : List UInt8 := 132 :: 2 :: 1 :: t_Mo_start_69
abbrev t_Mo_start_65 : List UInt8 := 60 :: t_Mo_start_66
abbrev t_Mo_start_64 : List UInt8 := 3 :: t_Mo_start_65
abbrev t_Mo_start_61 : List UInt8 := 167 :: 0 :: 4 :: t_Mo_start_64
abbrev t_Mo_start_60 : List UInt8 := 4 :: t_Mo_start_61
abbrev t_Mo_start_57 : List UInt8 := 159 :: 0 :: 7 :: t_Mo_start_60
abbrev t_Mo_start_55 : List UInt8 := 16 :: 24 :: t_Mo_start_57
abbrev t_Mo_start_54 : List UInt8 := 46 :: t_Mo_start_55
abbrev t_Mo_start_51 : List UInt8 := 182 :: 1 :: 231 :: t_Mo_start_54
abbrev t_Mo_start_50 : List UInt8 := 46 :: t_Mo_start_51
abbrev t_Mo_start_49 : List UInt8 := 96 :: t_Mo_start_50
abbrev t_Mo_start_48 : List UInt8 := 28 :: t_Mo_start_49
abbrev t_Mo_start_47 : List UInt8 := 104 :: t_Mo_start_48
abbrev t_Mo_start_44 : List UInt8 := 180 :: 1 :: 192 :: t_Mo_start_47
abbrev t_Mo_start_41 : List UInt8 := 180 :: 0 :: 16 :: t_Mo_start_44
abbrev t_Mo_start_40 : List UInt8 := 42 :: t_Mo_start_41
abbrev t_Mo_start_37 : List UInt8 := 17 :: 1 :: 44 :: t_Mo_start_40
abbrev t_Mo_start_34 : List UInt8 := 180 :: 2 :: 5 :: t_Mo_start_37
abbrev t_Mo_start_31 : List UInt8 := 180 :: 0 :: 16 :: t_Mo_start_34
abbrev t_Mo_start_30 : List UInt8 := 42 :: t_Mo_start_31
abbrev t_Mo_start_27 : List UInt8 := 180 :: 0 :: 16 :: t_Mo_start_30
abbrev t_Mo_start_26 : List UInt8 := 42 :: t_Mo_start_27
abbrev t_Mo_start_23 : List UInt8 := 180 :: 1 :: 228 :: t_Mo_start_26
abbrev t_Mo_start_20 : List UInt8 := 180 :: 0 :: 16 :: t_Mo_start_23
abbrev t_Mo_start_19 : List UInt8 := 42 :: t_Mo_start_20
abbrev t_Mo_start_16 : List UInt8 := 154 :: 0 :: 44 :: t_Mo_start_19
abbrev t_Mo_start_15 : List UInt8 := 27 :: t_Mo_start_16
abbrev t_Mo_start_12 : List UInt8 := 162 :: 0 :: 60 :: t_Mo_start_15
abbrev t_Mo_start_9 : List UInt8 := 180 :: 2 :: 2 :: t_Mo_start_12
abbrev t_Mo_start_6 : List UInt8 := 180 :: 0 :: 16 :: t_Mo_start_9
abbrev t_Mo_start_5 : List UInt8 := 42 :: t_Mo_start_6
abbrev t_Mo_start_4 : List UInt8 := 28 :: t_Mo_start_5
abbrev t_Mo_start_3 : List UInt8 := 61 :: t_Mo_start_4
abbrev t_Mo_start_2 : List UInt8 := 3 :: t_Mo_start_3
abbrev t_Mo_start_1 : List UInt8 := 60 :: t_Mo_start_2
abbrev t_Mo_start_0 : List UInt8 := 3 :: t_Mo_start_1
theorem a_Mo_start_0 : dk_at b_Mo_start 0 t_Mo_start_0 := dk_start (by decide +kernel)
theorem a_Mo_start_1 : dk_at b_Mo_start 1 t_Mo_start_1 := dk_go 1 a_Mo_start_0 rfl
theorem a_Mo_start_2 : dk_at b_Mo_start 2 t_Mo_start_2 := dk_go 1 a_Mo_start_1 rfl
theorem a_Mo_start_3 : dk_at b_Mo_start 3 t_Mo_start_3 := dk_go 1 a_Mo_start_2 rfl
theorem a_Mo_start_4 : dk_at b_Mo_start 4 t_Mo_start_4 := dk_go 1 a_Mo_start_3 rfl
theorem a_Mo_start_5 : dk_at b_Mo_start 5 t_Mo_start_5 := dk_go 1 a_Mo_start_4 rfl
theorem a_Mo_start_6 : dk_at b_Mo_start 6 t_Mo_start_6 := dk_go 1 a_Mo_start_5 rfl
theorem a_Mo_start_9 : dk_at b_Mo_start 9 t_Mo_start_9 := dk_go 3 a_Mo_start_6 rfl
theorem a_Mo_start_12 : dk_at b_Mo_start 12 t_Mo_start_12 := dk_go 3 a_Mo_start_9 rfl
theorem a_Mo_start_15 : dk_at b_Mo_start 15 t_Mo_start_15 := dk_go 3 a_Mo_start_12 rfl
theorem a_Mo_start_16 : dk_at b_Mo_start 16 t_Mo_start_16 := dk_go 1 a_Mo_start_15 rfl
theorem a_Mo_start_19 : dk_at b_Mo_start 19 t_Mo_start_19 := dk_go 3 a_Mo_start_16 rfl
theorem a_Mo_start_20 : dk_at b_Mo_start 20 t_Mo_start_20 := dk_go 1 a_Mo_start_19 rfl
theorem a_Mo_start_23 : dk_at b_Mo_start 23 t_Mo_start_23 := dk_go 3 a_Mo_start_20 rfl
theorem a_Mo_start_26 : dk_at b_Mo_start 26 t_Mo_start_26 := dk_go 3 a_Mo_start_23 rfl
theorem a_Mo_start_27 : dk_at b_Mo_start 27 t_Mo_start_27 := dk_go 1 a_Mo_start_26 rfl
theorem a_Mo_start_30 : dk_at b_Mo_start 30 t_Mo_start_30 := dk_go 3 a_Mo_start_27 rfl
theorem a_Mo_start_31 : dk_at b_Mo_start 31 t_Mo_start_31 := dk_go 1 a_Mo_start_30 rfl
theorem a_Mo_start_34 : dk_at b_Mo_start 34 t_Mo_start_34 := dk_go 3 a_Mo_start_31 rfl
theorem a_Mo_start_37 : dk_at b_Mo_start 37 t_Mo_start_37 := dk_go 3 a_Mo_start_34 rfl
theorem a_Mo_start_40 : dk_at b_Mo_start 40 t_Mo_start_40 := dk_go 3 a_Mo_start_37 rfl
theorem a_Mo_start_41 : dk_at b_Mo_start 41 t_Mo_start_41 := dk_go 1 a_Mo_start_40 rfl
theorem a_Mo_start_44 : dk_at b_Mo_start 44 t_Mo_start_44 := dk_go 3 a_Mo_start_41 rfl
theorem a_Mo_start_47 : dk_at b_Mo_start 47 t_Mo_start_47 := dk_go 3 a_Mo_start_44 rfl
theorem a_Mo_start_48 : dk_at b_Mo_start 48 t_Mo_start_48 := dk_go 1 a_Mo_start_47 rfl
theorem a_Mo_start_49 : dk_at b_Mo_start 49 t_Mo_start_49 := dk_go 1 a_Mo_start_48 rfl
theorem a_Mo_start_50 : dk_at b_Mo_start 50 t_Mo_start_50 := dk_go 1 a_Mo_start_49 rfl
theorem a_Mo_start_51 : dk_at b_Mo_start 51 t_Mo_start_51 := dk_go 1 a_Mo_start_50 rfl
theorem a_Mo_start_54 : dk_at b_Mo_start 54 t_Mo_start_54 := dk_go 3 a_Mo_start_51 rfl
theorem a_Mo_start_55 : dk_at b_Mo_start 55 t_Mo_start_55 := dk_go 1 a_Mo_start_54 rfl
theorem a_Mo_start_57 : dk_at b_Mo_start 57 t_Mo_start_57 := dk_go 2 a_Mo_start_55 rfl
theorem a_Mo_start_60 : dk_at b_Mo_start 60 t_Mo_start_60 := dk_go 3 a_Mo_start_57 rfl
theorem a_Mo_start_61 : dk_at b_Mo_start 61 t_Mo_start_61 := dk_go 1 a_Mo_start_60 rfl
theorem a_Mo_start_64 : dk_at b_Mo_start 64 t_Mo_start_64 := dk_go 3 a_Mo_start_61 rfl
theorem a_Mo_start_65 : dk_at b_Mo_start 65 t_Mo_start_65 := dk_go 1 a_Mo_start_64 rfl
theorem a_Mo_start_66 : dk_at b_Mo_start 66 t_Mo_start_66 := dk_go 1 a_Mo_start_65 rfl
theorem a_Mo_start_69 : dk_at b_Mo_start 69 t_Mo_start_69 := dk_go 3 a_Mo_start_66 rfl
theorem a_Mo_start_72 : dk_at b_Mo_start 72 t_Mo_start_72 := dk_go 3 a_Mo_start_69 rfl
theorem a_Mo_start_73 : dk_at b_Mo_start 73 t_Mo_start_73 := dk_go 1 a_Mo_start_72 rfl
theorem a_Mo_start_76 : dk_at b_Mo_start 76 t_Mo_start_76 := dk_go 3 a_Mo_start_73 rfl
theorem a_Mo_start_77 : dk_at b_Mo_start 77 t_Mo_start_77 := dk_go 1 a_Mo_start_76 rfl
theorem a_Mo_start_78 : dk_at b_Mo_start 78 t_Mo_start_78 := dk_go 1 a_Mo_start_77 rfl
theorem a_Mo_start_79 : dk_at b_Mo_start 79 t_Mo_start_79 := dk_go 1 a_Mo_start_78 rfl
theorem a_Mo_start_82 : dk_at b_Mo_start 82 t_Mo_start_82 := dk_go 3 a_Mo_start_79 rfl
theorem a_Mo_start_85 : dk_at b_Mo_start 85 t_Mo_start_85 := dk_go 3 a_Mo_start_82 rfl
theorem a_Mo_start_86 : dk_at b_Mo_start 86 t_Mo_start_86 := dk_go 1 a_Mo_start_85 rfl
theorem a_Mo_start_89 : dk_at b_Mo_start 89 t_Mo_start_89 := dk_go 3 a_Mo_start_86 rfl
theorem a_Mo_start_90 : dk_at b_Mo_start 90 t_Mo_start_90 := dk_go 1 a_Mo_start_89 rfl
theorem a_Mo_start_93 : dk_at b_Mo_start 93 t_Mo_start_93 := dk_go 3 a_Mo_start_90 rfl
theorem a_Mo_start_94 : dk_at b_Mo_start 94 t_Mo_start_94 := dk_go 1 a_Mo_start_93 rfl
theorem a_Mo_start_97 : dk_at b_Mo_start 97 t_Mo_start_97 := dk_go 3 a_Mo_start_94 rfl
theorem a_Mo_start_98 : dk_at b_Mo_start 98 t_Mo_start_98 := dk_go 1 a_Mo_start_97 rfl
theorem a_Mo_start_99 : dk_at b_Mo_start 99 t_Mo_start_99 := dk_go 1 a_Mo_start_98 rfl
theorem a_Mo_start_102 : dk_at b_Mo_start 102 t_Mo_start_102 := dk_go 3 a_Mo_start_99 rfl
theorem a_Mo_start_103 : dk_at b_Mo_start 103 t_Mo_start_103 := dk_go 1 a_Mo_start_102 rfl
theorem a_Mo_start_106 : dk_at b_Mo_start 106 t_Mo_start_106 := dk_go 3 a_Mo_start_103 rfl
theorem a_Mo_start_107 : dk_at b_Mo_start 107 t_Mo_start_107 := dk_go 1 a_Mo_start_106 rfl
theorem a_Mo_start_108 : dk_at b_Mo_start 108 t_Mo_start_108 := dk_go 1 a_Mo_start_107 rfl
theorem a_Mo_start_109 : dk_at b_Mo_start 109 t_Mo_start_109 := dk_go 1 a_Mo_start_108 rfl
theorem a_Mo_start_110 : dk_at b_Mo_start 110 t_Mo_start_110 := dk_go 1 a_Mo_start_109 rfl
theorem a_Mo_start_113 : dk_at b_Mo_start 113 t_Mo_start_113 := dk_go 3 a_Mo_start_110 rfl
theorem a_Mo_start_114 : dk_at b_Mo_start 114 t_Mo_start_114 := dk_go 1 a_Mo_start_113 rfl
theorem a_Mo_start_115 : dk_at b_Mo_start 115 t_Mo_start_115 := dk_go 1 a_Mo_start_114 rfl
theorem a_Mo_start_116 : dk_at b_Mo_start 116 t_Mo_start_116 := dk_go 1 a_Mo_start_115 rfl
theorem a_Mo_start_117 : dk_at b_Mo_start 117 t_Mo_start_117 := dk_go 1 a_Mo_start_116 rfl
theorem a_Mo_start_120 : dk_at b_Mo_start 120 t_Mo_start_120 := dk_go 3 a_Mo_start_117 rfl
theorem a_Mo_start_121 : dk_at b_Mo_start 121 t_Mo_start_121 := dk_go 1 a_Mo_start_120 rfl
theorem a_Mo_start_122 : dk_at b_Mo_start 122 t_Mo_start_122 := dk_go 1 a_Mo_start_121 rfl
theorem a_Mo_start_123 : dk_at b_Mo_start 123 t_Mo_start_123 := dk_go 1 a_Mo_start_122 rfl
theorem a_Mo_start_124 : dk_at b_Mo_start 124 t_Mo_start_124 := dk_go 1 a_Mo_start_123 rfl
theorem a_Mo_start_127 : dk_at b_Mo_start 127 t_Mo_start_127 := dk_go 3 a_Mo_start_124 rfl
theorem a_Mo_start_128 : dk_at b_Mo_start 128 t_Mo_start_128 := dk_go 1 a_Mo_start_127 rfl
theorem a_Mo_start_129 : dk_at b_Mo_start 129 t_Mo_start_129 := dk_go 1 a_Mo_start_128 rfl
theorem a_Mo_start_130 : dk_at b_Mo_start 130 t_Mo_start_130 := dk_go 1 a_Mo_start_129 rfl
theorem a_Mo_start_131 : dk_at b_Mo_start 131 t_Mo_start_131 := dk_go 1 a_Mo_start_130 rfl
theorem a_Mo_start_132 : dk_at b_Mo_start 132 t_Mo_start_132 := dk_go 1 a_Mo_start_131 rfl
theorem a_Mo_start_133 : dk_at b_Mo_start 133 t_Mo_start_133 := dk_go 1 a_Mo_start_132 rfl
theorem a_Mo_start_134 : dk_at b_Mo_start 134 t_Mo_start_134 := dk_go 1 a_Mo_start_133 rfl
theorem a_Mo_start_135 : dk_at b_Mo_start 135 t_Mo_start_135 := dk_go 1 a_Mo_start_134 rfl
theorem a_Mo_start_136 : dk_at b_Mo_start 136 t_Mo_start_136 := dk_go 1 a_Mo_start_135 rfl
theorem a_Mo_start_139 : dk_at b_Mo_start 139 t_Mo_start_139 := dk_go 3 a_Mo_start_136 rfl
theorem a_Mo_start_142 : dk_at b_Mo_start 142 t_Mo_start_142 := dk_go 3 a_Mo_start_139 rfl
theorem a_Mo_start_145 : dk_at b_Mo_start 145 t_Mo_start_145 := dk_go 3 a_Mo_start_142 rfl
theorem a_Mo_start_146 : dk_at b_Mo_start 146 t_Mo_start_146 := dk_go 1 a_Mo_start_145 rfl
theorem a_Mo_start_149 : dk_at b_Mo_start 149 t_Mo_start_149 := dk_go 3 a_Mo_start_146 rfl
theorem a_Mo_start_152 : dk_at b_Mo_start 152 t_Mo_start_152 := dk_go 3 a_Mo_start_149 rfl
theorem a_Mo_start_155 : dk_at b_Mo_start 155 t_Mo_start_155 := dk_go 3 a_Mo_start_152 rfl
theorem a_Mo_start_156 : dk_at b_Mo_start 156 t_Mo_start_156 := dk_go 1 a_Mo_start_155 rfl
theorem a_Mo_start_159 : dk_at b_Mo_start 159 t_Mo_start_159 := dk_go 3 a_Mo_start_156 rfl
theorem a_Mo_start_162 : dk_at b_Mo_start 162 t_Mo_start_162 := dk_go 3 a_Mo_start_159 rfl
theorem a_Mo_start_163 : dk_at b_Mo_start 163 t_Mo_start_163 := dk_go 1 a_Mo_start_162 rfl
theorem a_Mo_start_164 : dk_at b_Mo_start 164 t_Mo_start_164 := dk_go 1 a_Mo_start_163 rfl
theorem a_Mo_start_165 : dk_at b_Mo_start 165 t_Mo_start_165 := dk_go 1 a_Mo_start_164 rfl
theorem a_Mo_start_166 : dk_at b_Mo_start 166 t_Mo_start_166 := dk_go 1 a_Mo_start_165 rfl
theorem a_Mo_start_168 : dk_at b_Mo_start 168 t_Mo_start_168 := dk_go 2 a_Mo_start_166 rfl
theorem a_Mo_start_169 : dk_at b_Mo_start 169 t_Mo_start_169 := dk_go 1 a_Mo_start_168 rfl
theorem a_Mo_start_172 : dk_at b_Mo_start 172 t_Mo_start_172 := dk_go 3 a_Mo_start_169 rfl
theorem a_Mo_start_175 : dk_at b_Mo_start 175 t_Mo_start_175 := dk_go 3 a_Mo_start_172 rfl
theorem a_Mo_start_176 : dk_at b_Mo_start 176 t_Mo_start_176 := dk_go 1 a_Mo_start_175 rfl
theorem a_Mo_start_179 : dk_at b_Mo_start 179 t_Mo_start_179 := dk_go 3 a_Mo_start_176 rfl
theorem a_Mo_start_181 : dk_at b_Mo_start 181 t_Mo_start_181 := dk_go 2 a_Mo_start_179 rfl
theorem a_Mo_start_184 : dk_at b_Mo_start 184 t_Mo_start_184 := dk_go 3 a_Mo_start_181 rfl
theorem a_Mo_start_185 : dk_at b_Mo_start 185 t_Mo_start_185 := dk_go 1 a_Mo_start_184 rfl
theorem a_Mo_start_187 : dk_at b_Mo_start 187 t_Mo_start_187 := dk_go 2 a_Mo_start_185 rfl
theorem a_Mo_start_190 : dk_at b_Mo_start 190 t_Mo_start_190 := dk_go 3 a_Mo_start_187 rfl
theorem a_Mo_start_191 : dk_at b_Mo_start 191 t_Mo_start_191 := dk_go 1 a_Mo_start_190 rfl
theorem a_Mo_start_192 : dk_at b_Mo_start 192 t_Mo_start_192 := dk_go 1 a_Mo_start_191 rfl
theorem a_Mo_start_193 : dk_at b_Mo_start 193 t_Mo_start_193 := dk_go 1 a_Mo_start_192 rfl
theorem a_Mo_start_194 : dk_at b_Mo_start 194 t_Mo_start_194 := dk_go 1 a_Mo_start_193 rfl
theorem a_Mo_start_196 : dk_at b_Mo_start 196 t_Mo_start_196 := dk_go 2 a_Mo_start_194 rfl
theorem a_Mo_start_199 : dk_at b_Mo_start 199 t_Mo_start_199 := dk_go 3 a_Mo_start_196 rfl
theorem a_Mo_start_202 : dk_at b_Mo_start 202 t_Mo_start_202 := dk_go 3 a_Mo_start_199 rfl
theorem a_Mo_start_203 : dk_at b_Mo_start 203 t_Mo_start_203 := dk_go 1 a_Mo_start_202 rfl
theorem a_Mo_start_206 : dk_at b_Mo_start 206 t_Mo_start_206 := dk_go 3 a_Mo_start_203 rfl
theorem a_Mo_start_209 : dk_at b_Mo_start 209 t_Mo_start_209 := dk_go 3 a_Mo_start_206 rfl
theorem a_Mo_start_210 : dk_at b_Mo_start 210 t_Mo_start_210 := dk_go 1 a_Mo_start_209 rfl
theorem a_Mo_start_213 : dk_at b_Mo_start 213 t_Mo_start_213 := dk_go 3 a_Mo_start_210 rfl
theorem a_Mo_start_214 : dk_at b_Mo_start 214 t_Mo_start_214 := dk_go 1 a_Mo_start_213 rfl
theorem a_Mo_start_215 : dk_at b_Mo_start 215 t_Mo_start_215 := dk_go 1 a_Mo_start_214 rfl
theorem a_Mo_start_218 : dk_at b_Mo_start 218 t_Mo_start_218 := dk_go 3 a_Mo_start_215 rfl
theorem a_Mo_start_219 : dk_at b_Mo_start 219 t_Mo_start_219 := dk_go 1 a_Mo_start_218 rfl
theorem a_Mo_start_220 : dk_at b_Mo_start 220 t_Mo_start_220 := dk_go 1 a_Mo_start_219 rfl
theorem a_Mo_start_221 : dk_at b_Mo_start 221 t_Mo_start_221 := dk_go 1 a_Mo_start_220 rfl
theorem a_Mo_start_222 : dk_at b_Mo_start 222 t_Mo_start_222 := dk_go 1 a_Mo_start_221 rfl
theorem a_Mo_start_223 : dk_at b_Mo_start 223 t_Mo_start_223 := dk_go 1 a_Mo_start_222 rfl
theorem a_Mo_start_224 : dk_at b_Mo_start 224 t_Mo_start_224 := dk_go 1 a_Mo_start_223 rfl
theorem a_Mo_start_226 : dk_at b_Mo_start 226 t_Mo_start_226 := dk_go 2 a_Mo_start_224 rfl
theorem a_Mo_start_229 : dk_at b_Mo_start 229 t_Mo_start_229 := dk_go 3 a_Mo_start_226 rfl
theorem a_Mo_start_230 : dk_at b_Mo_start 230 t_Mo_start_230 := dk_go 1 a_Mo_start_229 rfl
theorem a_Mo_start_231 : dk_at b_Mo_start 231 t_Mo_start_231 := dk_go 1 a_Mo_start_230 rfl
theorem a_Mo_start_233 : dk_at b_Mo_start 233 t_Mo_start_233 := dk_go 2 a_Mo_start_231 rfl
theorem a_Mo_start_236 : dk_at b_Mo_start 236 t_Mo_start_236 := dk_go 3 a_Mo_start_233 rfl
theorem a_Mo_start_239 : dk_at b_Mo_start 239 t_Mo_start_239 := dk_go 3 a_Mo_start_236 rfl
theorem a_Mo_start_240 : dk_at b_Mo_start 240 t_Mo_start_240 := dk_go 1 a_Mo_start_239 rfl
theorem a_Mo_start_243 : dk_at b_Mo_start 243 t_Mo_start_243 := dk_go 3 a_Mo_start_240 rfl
theorem a_Mo_start_244 : dk_at b_Mo_start 244 t_Mo_start_244 := dk_go 1 a_Mo_start_243 rfl
theorem a_Mo_start_245 : dk_at b_Mo_start 245 t_Mo_start_245 := dk_go 1 a_Mo_start_244 rfl
theorem a_Mo_start_246 : dk_at b_Mo_start 246 t_Mo_start_246 := dk_go 1 a_Mo_start_245 rfl
theorem a_Mo_start_249 : dk_at b_Mo_start 249 t_Mo_start_249 := dk_go 3 a_Mo_start_246 rfl
theorem a_Mo_start_250 : dk_at b_Mo_start 250 t_Mo_start_250 := dk_go 1 a_Mo_start_249 rfl
theorem a_Mo_start_253 : dk_at b_Mo_start 253 t_Mo_start_253 := dk_go 3 a_Mo_start_250 rfl
theorem a_Mo_start_254 : dk_at b_Mo_start 254 t_Mo_start_254 := dk_go 1 a_Mo_start_253 rfl
theorem a_Mo_start_255 : dk_at b_Mo_start 255 t_Mo_start_255 := dk_go 1 a_Mo_start_254 rfl
theorem a_Mo_start_256 : dk_at b_Mo_start 256 t_Mo_start_256 := dk_go 1 a_Mo_start_255 rfl
theorem a_Mo_start_259 : dk_at b_Mo_start 259 t_Mo_start_259 := dk_go 3 a_Mo_start_256 rfl
theorem a_Mo_start_260 : dk_at b_Mo_start 260 t_Mo_start_260 := dk_go 1 a_Mo_start_259 rfl
theorem a_Mo_start_263 : dk_at b_Mo_start 263 t_Mo_start_263 := dk_go 3 a_Mo_start_260 rfl
theorem a_Mo_start_264 : dk_at b_Mo_start 264 t_Mo_start_264 := dk_go 1 a_Mo_start_263 rfl
theorem a_Mo_start_266 : dk_at b_Mo_start 266 t_Mo_start_266 := dk_go 2 a_Mo_start_264 rfl
theorem a_Mo_start_267 : dk_at b_Mo_start 267 t_Mo_start_267 := dk_go 1 a_Mo_start_266 rfl
theorem a_Mo_start_270 : dk_at b_Mo_start 270 t_Mo_start_270 := dk_go 3 a_Mo_start_267 rfl
theorem a_Mo_start_271 : dk_at b_Mo_start 271 t_Mo_start_271 := dk_go 1 a_Mo_start_270 rfl
theorem a_Mo_start_273 : dk_at b_Mo_start 273 t_Mo_start_273 := dk_go 2 a_Mo_start_271 rfl
theorem a_Mo_start_276 : dk_at b_Mo_start 276 t_Mo_start_276 := dk_go 3 a_Mo_start_273 rfl
theorem a_Mo_start_277 : dk_at b_Mo_start 277 t_Mo_start_277 := dk_go 1 a_Mo_start_276 rfl
theorem a_Mo_start_280 : dk_at b_Mo_start 280 t_Mo_start_280 := dk_go 3 a_Mo_start_277 rfl
theorem a_Mo_start_281 : dk_at b_Mo_start 281 t_Mo_start_281 := dk_go 1 a_Mo_start_280 rfl
theorem a_Mo_start_282 : dk_at b_Mo_start 282 t_Mo_start_282 := dk_go 1 a_Mo_start_281 rfl
theorem a_Mo_start_285 : dk_at b_Mo_start 285 t_Mo_start_285 := dk_go 3 a_Mo_start_282 rfl
theorem a_Mo_start_286 : dk_at b_Mo_start 286 t_Mo_start_286 := dk_go 1 a_Mo_start_285 rfl
theorem a_Mo_start_287 : dk_at b_Mo_start 287 t_Mo_start_287 := dk_go 1 a_Mo_start_286 rfl
theorem a_Mo_start_290 : dk_at b_Mo_start 290 t_Mo_start_290 := dk_go 3 a_Mo_start_287 rfl
theorem a_Mo_start_293 : dk_at b_Mo_start 293 t_Mo_start_293 := dk_go 3 a_Mo_start_290 rfl
theorem a_Mo_start_294 : dk_at b_Mo_start 294 t_Mo_start_294 := dk_go 1 a_Mo_start_293 rfl
theorem a_Mo_start_295 : dk_at b_Mo_start 295 t_Mo_start_295 := dk_go 1 a_Mo_start_294 rfl
theorem a_Mo_start_298 : dk_at b_Mo_start 298 t_Mo_start_298 := dk_go 3 a_Mo_start_295 rfl
theorem a_Mo_start_299 : dk_at b_Mo_start 299 t_Mo_start_299 := dk_go 1 a_Mo_start_298 rfl
theorem a_Mo_start_300 : dk_at b_Mo_start 300 t_Mo_start_300 := dk_go 1 a_Mo_start_299 rfl
theorem a_Mo_start_303 : dk_at b_Mo_start 303 t_Mo_start_303 := dk_go 3 a_Mo_start_300 rfl
theorem a_Mo_start_304 : dk_at b_Mo_start 304 t_Mo_start_304 := dk_go 1 a_Mo_start_303 rfl
theorem a_Mo_start_305 : dk_at b_Mo_start 305 t_Mo_start_305 := dk_go 1 a_Mo_start_304 rfl
theorem a_Mo_start_308 : dk_at b_Mo_start 308 t_Mo_start_308 := dk_go 3 a_Mo_start_305 rfl
theorem a_Mo_start_309 : dk_at b_Mo_start 309 t_Mo_start_309 := dk_go 1 a_Mo_start_308 rfl
theorem d_Mo_start_0 : decode b_Mo_start 0 = .ok (.iconst 0, 1) := dk_0 a_Mo_start_0 (dko_3 _)
theorem d_Mo_start_1 : decode b_Mo_start 1 = .ok (.istore_n 1, 1) := dk_0 a_Mo_start_1 (dko_60 _)
theorem d_Mo_start_2 : decode b_Mo_start 2 = .ok (.iconst 0, 1) := dk_0 a_Mo_start_2 (dko_3 _)
theorem d_Mo_start_3 : decode b_Mo_start 3 = .ok (.istore_n 2, 1) := dk_0 a_Mo_start_3 (dko_61 _)
theorem d_Mo_start_4 : decode b_Mo_start 4 = .ok (.iload_n 2, 1) := dk_0 a_Mo_start_4 (dko_28 _)
theorem d_Mo_start_5 : decode b_Mo_start 5 = .ok (.aload_n 0, 1) := dk_0 a_Mo_start_5 (dko_42 _)
theorem d_Mo_start_6 : decode b_Mo_start 6 = .ok (.getfield 16, 3) := dk_U2 a_Mo_start_6 (dko_180 _) rfl
theorem d_Mo_start_9 : decode b_Mo_start 9 = .ok (.getfield 514, 3) := dk_U2 a_Mo_start_9 (dko_180 _) rfl
theorem d_Mo_start_12 : decode b_Mo_start 12 = .ok (.if_icmp .ge 60, 3) := dk_S2 a_Mo_start_12 (dko_162 _) (by decide +kernel)
theorem d_Mo_start_15 : decode b_Mo_start 15 = .ok (.iload_n 1, 1) := dk_0 a_Mo_start_15 (dko_27 _)
theorem d_Mo_start_16 : decode b_Mo_start 16 = .ok (.ifCond .ne 44, 3) := dk_S2 a_Mo_start_16 (dko_154 _) (by decide +kernel)
theorem d_Mo_start_19 : decode b_Mo_start 19 = .ok (.aload_n 0, 1) := dk_0 a_Mo_start_19 (dko_42 _)
theorem d_Mo_start_20 : decode b_Mo_start 20 = .ok (.getfield 16, 3) := dk_U2 a_Mo_start_20 (dko_180 _) rfl
theorem d_Mo_start_23 : decode b_Mo_start 23 = .ok (.getfield 484, 3) := dk_U2 a_Mo_start_23 (dko_180 _) rfl
theorem d_Mo_start_26 : decode b_Mo_start 26 = .ok (.aload_n 0, 1) := dk_0 a_Mo_start_26 (dko_42 _)
theorem d_Mo_start_27 : decode b_Mo_start 27 = .ok (.getfield 16, 3) := dk_U2 a_Mo_start_27 (dko_180 _) rfl
theorem d_Mo_start_30 : decode b_Mo_start 30 = .ok (.aload_n 0, 1) := dk_0 a_Mo_start_30 (dko_42 _)
theorem d_Mo_start_31 : decode b_Mo_start 31 = .ok (.getfield 16, 3) := dk_U2 a_Mo_start_31 (dko_180 _) rfl
theorem d_Mo_start_34 : decode b_Mo_start 34 = .ok (.getfield 517, 3) := dk_U2 a_Mo_start_34 (dko_180 _) rfl
theorem d_Mo_start_37 : decode b_Mo_start 37 = .ok (.sipush 300, 3) := dk_S2 a_Mo_start_37 (dko_17 _) (by decide +kernel)
theorem d_Mo_start_40 : decode b_Mo_start 40 = .ok (.aload_n 0, 1) := dk_0 a_Mo_start_40 (dko_42 _)
theorem d_Mo_start_41 : decode b_Mo_start 41 = .ok (.getfield 16, 3) := dk_U2 a_Mo_start_41 (dko_180 _) rfl
theorem d_Mo_start_44 : decode b_Mo_start 44 = .ok (.getfield 448, 3) := dk_U2 a_Mo_start_44 (dko_180 _) rfl
theorem d_Mo_start_47 : decode b_Mo_start 47 = .ok (.imul, 1) := dk_0 a_Mo_start_47 (dko_104 _)
theorem d_Mo_start_48 : decode b_Mo_start 48 = .ok (.iload_n 2, 1) := dk_0 a_Mo_start_48 (dko_28 _)
theorem d_Mo_start_49 : decode b_Mo_start 49 = .ok (.iadd, 1) := dk_0 a_Mo_start_49 (dko_96 _)
theorem d_Mo_start_50 : decode b_Mo_start 50 = .ok (.iaload, 1) := dk_0 a_Mo_start_50 (dko_46 _)
theorem d_Mo_start_51 : decode b_Mo_start 51 = .ok (.invokevirtual 487, 3) := dk_U2 a_Mo_start_51 (dko_182 _) rfl
theorem d_Mo_start_54 : decode b_Mo_start 54 = .ok (.iaload, 1) := dk_0 a_Mo_start_54 (dko_46 _)
theorem d_Mo_start_55 : decode b_Mo_start 55 = .ok (.bipush 24, 2) := dk_S1 a_Mo_start_55 (dko_16 _) (by decide +kernel)
theorem d_Mo_start_57 : decode b_Mo_start 57 = .ok (.if_icmp .eq 7, 3) := dk_S2 a_Mo_start_57 (dko_159 _) (by decide +kernel)
theorem d_Mo_start_60 : decode b_Mo_start 60 = .ok (.iconst 1, 1) := dk_0 a_Mo_start_60 (dko_4 _)
theorem d_Mo_start_61 : decode b_Mo_start 61 = .ok (.goto 4, 3) := dk_S2 a_Mo_start_61 (dko_167 _) (by decide +kernel)
theorem d_Mo_start_64 : decode b_Mo_start 64 = .ok (.iconst 0, 1) := dk_0 a_Mo_start_64 (dko_3 _)
theorem d_Mo_start_65 : decode b_Mo_start 65 = .ok (.istore_n 1, 1) := dk_0 a_Mo_start_65 (dko_60 _)
theorem d_Mo_start_66 : decode b_Mo_start 66 = .ok (.iinc 2 1, 3) := dk_US a_Mo_start_66 (dko_132 _) (by decide +kernel)
theorem d_Mo_start_69 : decode b_Mo_start 69 = .ok (.goto (-65), 3) := dk_S2 a_Mo_start_69 (dko_167 _) (by decide +kernel)
theorem d_Mo_start_72 : decode b_Mo_start 72 = .ok (.iload_n 1, 1) := dk_0 a_Mo_start_72 (dko_27 _)
theorem d_Mo_start_73 : decode b_Mo_start 73 = .ok (.ifCond .ne 5, 3) := dk_S2 a_Mo_start_73 (dko_154 _) (by decide +kernel)
theorem d_Mo_start_76 : decode b_Mo_start 76 = .ok (.iconst 0, 1) := dk_0 a_Mo_start_76 (dko_3 _)
theorem d_Mo_start_77 : decode b_Mo_start 77 = .ok (.ireturn, 1) := dk_0 a_Mo_start_77 (dko_172 _)
theorem d_Mo_start_78 : decode b_Mo_start 78 = .ok (.aload_n 0, 1) := dk_0 a_Mo_start_78 (dko_42 _)
theorem d_Mo_start_79 : decode b_Mo_start 79 = .ok (.getfield 162, 3) := dk_U2 a_Mo_start_79 (dko_180 _) rfl
theorem d_Mo_start_82 : decode b_Mo_start 82 = .ok (.ifCond .eq 11, 3) := dk_S2 a_Mo_start_82 (dko_153 _) (by decide +kernel)
theorem d_Mo_start_85 : decode b_Mo_start 85 = .ok (.aload_n 0, 1) := dk_0 a_Mo_start_85 (dko_42 _)
theorem d_Mo_start_86 : decode b_Mo_start 86 = .ok (.getfield 162, 3) := dk_U2 a_Mo_start_86 (dko_180 _) rfl
theorem d_Mo_start_89 : decode b_Mo_start 89 = .ok (.iconst 2, 1) := dk_0 a_Mo_start_89 (dko_5 _)
theorem d_Mo_start_90 : decode b_Mo_start 90 = .ok (.if_icmp .ne 7, 3) := dk_S2 a_Mo_start_90 (dko_160 _) (by decide +kernel)
theorem d_Mo_start_93 : decode b_Mo_start 93 = .ok (.aload_n 0, 1) := dk_0 a_Mo_start_93 (dko_42 _)
theorem d_Mo_start_94 : decode b_Mo_start 94 = .ok (.invokevirtual 231, 3) := dk_U2 a_Mo_start_94 (dko_182 _) rfl
theorem d_Mo_start_97 : decode b_Mo_start 97 = .ok (.aload_n 0, 1) := dk_0 a_Mo_start_97 (dko_42 _)
theorem d_Mo_start_98 : decode b_Mo_start 98 = .ok (.iconst 1, 1) := dk_0 a_Mo_start_98 (dko_4 _)
theorem d_Mo_start_99 : decode b_Mo_start 99 = .ok (.putfield 493, 3) := dk_U2 a_Mo_start_99 (dko_181 _) rfl
theorem d_Mo_start_102 : decode b_Mo_start 102 = .ok (.aload_n 0, 1) := dk_0 a_Mo_start_102 (dko_42 _)
theorem d_Mo_start_103 : decode b_Mo_start 103 = .ok (.getfield 166, 3) := dk_U2 a_Mo_start_103 (dko_180 _) rfl
theorem d_Mo_start_106 : decode b_Mo_start 106 = .ok (.iconst 0, 1) := dk_0 a_Mo_start_106 (dko_3 _)
theorem d_Mo_start_107 : decode b_Mo_start 107 = .ok (.iconst (-1), 1) := dk_0 a_Mo_start_107 (dko_2 _)
theorem d_Mo_start_108 : decode b_Mo_start 108 = .ok (.iastore, 1) := dk_0 a_Mo_start_108 (dko_79 _)
theorem d_Mo_start_109 : decode b_Mo_start 109 = .ok (.aload_n 0, 1) := dk_0 a_Mo_start_109 (dko_42 _)
theorem d_Mo_start_110 : decode b_Mo_start 110 = .ok (.getfield 175, 3) := dk_U2 a_Mo_start_110 (dko_180 _) rfl
theorem d_Mo_start_113 : decode b_Mo_start 113 = .ok (.iconst 0, 1) := dk_0 a_Mo_start_113 (dko_3 _)
theorem d_Mo_start_114 : decode b_Mo_start 114 = .ok (.iconst 1, 1) := dk_0 a_Mo_start_114 (dko_4 _)
theorem d_Mo_start_115 : decode b_Mo_start 115 = .ok (.bastore, 1) := dk_0 a_Mo_start_115 (dko_84 _)
theorem d_Mo_start_116 : decode b_Mo_start 116 = .ok (.aload_n 0, 1) := dk_0 a_Mo_start_116 (dko_42 _)
theorem d_Mo_start_117 : decode b_Mo_start 117 = .ok (.getfield 169, 3) := dk_U2 a_Mo_start_117 (dko_180 _) rfl
theorem d_Mo_start_120 : decode b_Mo_start 120 = .ok (.iconst 0, 1) := dk_0 a_Mo_start_120 (dko_3 _)
theorem d_Mo_start_121 : decode b_Mo_start 121 = .ok (.iconst (-1), 1) := dk_0 a_Mo_start_121 (dko_2 _)
theorem d_Mo_start_122 : decode b_Mo_start 122 = .ok (.iastore, 1) := dk_0 a_Mo_start_122 (dko_79 _)
theorem d_Mo_start_123 : decode b_Mo_start 123 = .ok (.aload_n 0, 1) := dk_0 a_Mo_start_123 (dko_42 _)
theorem d_Mo_start_124 : decode b_Mo_start 124 = .ok (.getfield 172, 3) := dk_U2 a_Mo_start_124 (dko_180 _) rfl
theorem d_Mo_start_127 : decode b_Mo_start 127 = .ok (.iconst 0, 1) := dk_0 a_Mo_start_127 (dko_3 _)
theorem d_Mo_start_128 : decode b_Mo_start 128 = .ok (.iconst (-1), 1) := dk_0 a_Mo_start_128 (dko_2 _)
theorem d_Mo_start_129 : decode b_Mo_start 129 = .ok (.iastore, 1) := dk_0 a_Mo_start_129 (dko_79 _)
theorem d_Mo_start_130 : decode b_Mo_start 130 = .ok (.iconst (-1), 1) := dk_0 a_Mo_start_130 (dko_2 _)
theorem d_Mo_start_131 : decode b_Mo_start 131 = .ok (.istore_n 2, 1) := dk_0 a_Mo_start_131 (dko_61 _)
theorem d_Mo_start_132 : decode b_Mo_start 132 = .ok (.iconst 0, 1) := dk_0 a_Mo_start_132 (dko_3 _)
theorem d_Mo_start_133 : decode b_Mo_start 133 = .ok (.istore_n 3, 1) := dk_0 a_Mo_start_133 (dko_62 _)
theorem d_Mo_start_134 : decode b_Mo_start 134 = .ok (.iload_n 3, 1) := dk_0 a_Mo_start_134 (dko_29 _)
theorem d_Mo_start_135 : decode b_Mo_start 135 = .ok (.aload_n 0, 1) := dk_0 a_Mo_start_135 (dko_42 _)
theorem d_Mo_start_136 : decode b_Mo_start 136 = .ok (.getfield 16, 3) := dk_U2 a_Mo_start_136 (dko_180 _) rfl
theorem d_Mo_start_139 : decode b_Mo_start 139 = .ok (.getfield 514, 3) := dk_U2 a_Mo_start_139 (dko_180 _) rfl
theorem d_Mo_start_142 : decode b_Mo_start 142 = .ok (.if_icmp .ge 67, 3) := dk_S2 a_Mo_start_142 (dko_162 _) (by decide +kernel)
theorem d_Mo_start_145 : decode b_Mo_start 145 = .ok (.aload_n 0, 1) := dk_0 a_Mo_start_145 (dko_42 _)
theorem d_Mo_start_146 : decode b_Mo_start 146 = .ok (.getfield 16, 3) := dk_U2 a_Mo_start_146 (dko_180 _) rfl
theorem d_Mo_start_149 : decode b_Mo_start 149 = .ok (.getfield 517, 3) := dk_U2 a_Mo_start_149 (dko_180 _) rfl
theorem d_Mo_start_152 : decode b_Mo_start 152 = .ok (.sipush 300, 3) := dk_S2 a_Mo_start_152 (dko_17 _) (by decide +kernel)
theorem d_Mo_start_155 : decode b_Mo_start 155 = .ok (.aload_n 0, 1) := dk_0 a_Mo_start_155 (dko_42 _)
theorem d_Mo_start_156 : decode b_Mo_start 156 = .ok (.getfield 16, 3) := dk_U2 a_Mo_start_156 (dko_180 _) rfl
theorem d_Mo_start_159 : decode b_Mo_start 159 = .ok (.getfield 448, 3) := dk_U2 a_Mo_start_159 (dko_180 _) rfl
theorem d_Mo_start_162 : decode b_Mo_start 162 = .ok (.imul, 1) := dk_0 a_Mo_start_162 (dko_104 _)
theorem d_Mo_start_163 : decode b_Mo_start 163 = .ok (.iload_n 3, 1) := dk_0 a_Mo_start_163 (dko_29 _)
theorem d_Mo_start_164 : decode b_Mo_start 164 = .ok (.iadd, 1) := dk_0 a_Mo_start_164 (dko_96 _)
theorem d_Mo_start_165 : decode b_Mo_start 165 = .ok (.iaload, 1) := dk_0 a_Mo_start_165 (dko_46 _)
theorem d_Mo_start_166 : decode b_Mo_start 166 = .ok (.istore 4, 2) := dk_U1 a_Mo_start_166 (dko_54 _) rfl
theorem d_Mo_start_168 : decode b_Mo_start 168 = .ok (.aload_n 0, 1) := dk_0 a_Mo_start_168 (dko_42 _)
theorem d_Mo_start_169 : decode b_Mo_start 169 = .ok (.getfield 16, 3) := dk_U2 a_Mo_start_169 (dko_180 _) rfl
theorem d_Mo_start_172 : decode b_Mo_start 172 = .ok (.getfield 484, 3) := dk_U2 a_Mo_start_172 (dko_180 _) rfl
theorem d_Mo_start_175 : decode b_Mo_start 175 = .ok (.aload_n 0, 1) := dk_0 a_Mo_start_175 (dko_42 _)
theorem d_Mo_start_176 : decode b_Mo_start 176 = .ok (.getfield 16, 3) := dk_U2 a_Mo_start_176 (dko_180 _) rfl
theorem d_Mo_start_179 : decode b_Mo_start 179 = .ok (.iload 4, 2) := dk_U1 a_Mo_start_179 (dko_21 _) rfl
theorem d_Mo_start_181 : decode b_Mo_start 181 = .ok (.invokevirtual 487, 3) := dk_U2 a_Mo_start_181 (dko_182 _) rfl
theorem d_Mo_start_184 : decode b_Mo_start 184 = .ok (.iaload, 1) := dk_0 a_Mo_start_184 (dko_46 _)
theorem d_Mo_start_185 : decode b_Mo_start 185 = .ok (.bipush 24, 2) := dk_S1 a_Mo_start_185 (dko_16 _) (by decide +kernel)
theorem d_Mo_start_187 : decode b_Mo_start 187 = .ok (.if_icmp .eq 16, 3) := dk_S2 a_Mo_start_187 (dko_159 _) (by decide +kernel)
theorem d_Mo_start_190 : decode b_Mo_start 190 = .ok (.aload_n 0, 1) := dk_0 a_Mo_start_190 (dko_42 _)
theorem d_Mo_start_191 : decode b_Mo_start 191 = .ok (.iconst 0, 1) := dk_0 a_Mo_start_191 (dko_3 _)
theorem d_Mo_start_192 : decode b_Mo_start 192 = .ok (.iload_n 2, 1) := dk_0 a_Mo_start_192 (dko_28 _)
theorem d_Mo_start_193 : decode b_Mo_start 193 = .ok (.aload_n 0, 1) := dk_0 a_Mo_start_193 (dko_42 _)
theorem d_Mo_start_194 : decode b_Mo_start 194 = .ok (.iload 4, 2) := dk_U1 a_Mo_start_194 (dko_21 _) rfl
theorem d_Mo_start_196 : decode b_Mo_start 196 = .ok (.invokevirtual 505, 3) := dk_U2 a_Mo_start_196 (dko_182 _) rfl
theorem d_Mo_start_199 : decode b_Mo_start 199 = .ok (.invokevirtual 511, 3) := dk_U2 a_Mo_start_199 (dko_182 _) rfl
theorem d_Mo_start_202 : decode b_Mo_start 202 = .ok (.istore_n 2, 1) := dk_0 a_Mo_start_202 (dko_61 _)
theorem d_Mo_start_203 : decode b_Mo_start 203 = .ok (.iinc 3 1, 3) := dk_US a_Mo_start_203 (dko_132 _) (by decide +kernel)
theorem d_Mo_start_206 : decode b_Mo_start 206 = .ok (.goto (-72), 3) := dk_S2 a_Mo_start_206 (dko_167 _) (by decide +kernel)
theorem d_Mo_start_209 : decode b_Mo_start 209 = .ok (.aload_n 0, 1) := dk_0 a_Mo_start_209 (dko_42 _)
theorem d_Mo_start_210 : decode b_Mo_start 210 = .ok (.getfield 184, 3) := dk_U2 a_Mo_start_210 (dko_180 _) rfl
theorem d_Mo_start_213 : decode b_Mo_start 213 = .ok (.iconst 0, 1) := dk_0 a_Mo_start_213 (dko_3 _)
theorem d_Mo_start_214 : decode b_Mo_start 214 = .ok (.aload_n 0, 1) := dk_0 a_Mo_start_214 (dko_42 _)
theorem d_Mo_start_215 : decode b_Mo_start 215 = .ok (.getfield 169, 3) := dk_U2 a_Mo_start_215 (dko_180 _) rfl
theorem d_Mo_start_218 : decode b_Mo_start 218 = .ok (.iconst 0, 1) := dk_0 a_Mo_start_218 (dko_3 _)
theorem d_Mo_start_219 : decode b_Mo_start 219 = .ok (.iaload, 1) := dk_0 a_Mo_start_219 (dko_46 _)
theorem d_Mo_start_220 : decode b_Mo_start 220 = .ok (.iastore, 1) := dk_0 a_Mo_start_220 (dko_79 _)
theorem d_Mo_start_221 : decode b_Mo_start 221 = .ok (.iconst 0, 1) := dk_0 a_Mo_start_221 (dko_3 _)
theorem d_Mo_start_222 : decode b_Mo_start 222 = .ok (.istore_n 3, 1) := dk_0 a_Mo_start_222 (dko_62 _)
theorem d_Mo_start_223 : decode b_Mo_start 223 = .ok (.iload_n 3, 1) := dk_0 a_Mo_start_223 (dko_29 _)
theorem d_Mo_start_224 : decode b_Mo_start 224 = .ok (.bipush 40, 2) := dk_S1 a_Mo_start_224 (dko_16 _) (by decide +kernel)
theorem d_Mo_start_226 : decode b_Mo_start 226 = .ok (.if_icmp .ge 67, 3) := dk_S2 a_Mo_start_226 (dko_162 _) (by decide +kernel)
theorem d_Mo_start_229 : decode b_Mo_start 229 = .ok (.aload_n 0, 1) := dk_0 a_Mo_start_229 (dko_42 _)
theorem d_Mo_start_230 : decode b_Mo_start 230 = .ok (.iload_n 3, 1) := dk_0 a_Mo_start_230 (dko_29 _)
theorem d_Mo_start_231 : decode b_Mo_start 231 = .ok (.bipush 30, 2) := dk_S1 a_Mo_start_231 (dko_16 _) (by decide +kernel)
theorem d_Mo_start_233 : decode b_Mo_start 233 = .ok (.invokevirtual 451, 3) := dk_U2 a_Mo_start_233 (dko_182 _) rfl
theorem d_Mo_start_236 : decode b_Mo_start 236 = .ok (.ifCond .eq 27, 3) := dk_S2 a_Mo_start_236 (dko_153 _) (by decide +kernel)
theorem d_Mo_start_239 : decode b_Mo_start 239 = .ok (.aload_n 0, 1) := dk_0 a_Mo_start_239 (dko_42 _)
theorem d_Mo_start_240 : decode b_Mo_start 240 = .ok (.getfield 144, 3) := dk_U2 a_Mo_start_240 (dko_180 _) rfl
theorem d_Mo_start_243 : decode b_Mo_start 243 = .ok (.iload_n 3, 1) := dk_0 a_Mo_start_243 (dko_29 _)
theorem d_Mo_start_244 : decode b_Mo_start 244 = .ok (.iaload, 1) := dk_0 a_Mo_start_244 (dko_46 _)
theorem d_Mo_start_245 : decode b_Mo_start 245 = .ok (.iconst (-1), 1) := dk_0 a_Mo_start_245 (dko_2 _)
theorem d_Mo_start_246 : decode b_Mo_start 246 = .ok (.if_icmp .eq 17, 3) := dk_S2 a_Mo_start_246 (dko_159 _) (by decide +kernel)
theorem d_Mo_start_249 : decode b_Mo_start 249 = .ok (.aload_n 0, 1) := dk_0 a_Mo_start_249 (dko_42 _)
theorem d_Mo_start_250 : decode b_Mo_start 250 = .ok (.getfield 144, 3) := dk_U2 a_Mo_start_250 (dko_180 _) rfl
theorem d_Mo_start_253 : decode b_Mo_start 253 = .ok (.iload_n 3, 1) := dk_0 a_Mo_start_253 (dko_29 _)
theorem d_Mo_start_254 : decode b_Mo_start 254 = .ok (.iaload, 1) := dk_0 a_Mo_start_254 (dko_46 _)
theorem d_Mo_start_255 : decode b_Mo_start 255 = .ok (.iconst 5, 1) := dk_0 a_Mo_start_255 (dko_8 _)
theorem d_Mo_start_256 : decode b_Mo_start 256 = .ok (.if_icmp .ge 7, 3) := dk_S2 a_Mo_start_256 (dko_162 _) (by decide +kernel)
theorem d_Mo_start_259 : decode b_Mo_start 259 = .ok (.iconst 1, 1) := dk_0 a_Mo_start_259 (dko_4 _)
theorem d_Mo_start_260 : decode b_Mo_start 260 = .ok (.goto 4, 3) := dk_S2 a_Mo_start_260 (dko_167 _) (by decide +kernel)
theorem d_Mo_start_263 : decode b_Mo_start 263 = .ok (.iconst 0, 1) := dk_0 a_Mo_start_263 (dko_3 _)
theorem d_Mo_start_264 : decode b_Mo_start 264 = .ok (.istore 4, 2) := dk_U1 a_Mo_start_264 (dko_54 _) rfl
theorem d_Mo_start_266 : decode b_Mo_start 266 = .ok (.aload_n 0, 1) := dk_0 a_Mo_start_266 (dko_42 _)
theorem d_Mo_start_267 : decode b_Mo_start 267 = .ok (.getfield 159, 3) := dk_U2 a_Mo_start_267 (dko_180 _) rfl
theorem d_Mo_start_270 : decode b_Mo_start 270 = .ok (.iload_n 3, 1) := dk_0 a_Mo_start_270 (dko_29 _)
theorem d_Mo_start_271 : decode b_Mo_start 271 = .ok (.iload 4, 2) := dk_U1 a_Mo_start_271 (dko_21 _) rfl
theorem d_Mo_start_273 : decode b_Mo_start 273 = .ok (.ifCond .eq 12, 3) := dk_S2 a_Mo_start_273 (dko_153 _) (by decide +kernel)
theorem d_Mo_start_276 : decode b_Mo_start 276 = .ok (.aload_n 0, 1) := dk_0 a_Mo_start_276 (dko_42 _)
theorem d_Mo_start_277 : decode b_Mo_start 277 = .ok (.getfield 159, 3) := dk_U2 a_Mo_start_277 (dko_180 _) rfl
theorem d_Mo_start_280 : decode b_Mo_start 280 = .ok (.iload_n 3, 1) := dk_0 a_Mo_start_280 (dko_29 _)
theorem d_Mo_start_281 : decode b_Mo_start 281 = .ok (.laload, 1) := dk_0 a_Mo_start_281 (dko_47 _)
theorem d_Mo_start_282 : decode b_Mo_start 282 = .ok (.goto 4, 3) := dk_S2 a_Mo_start_282 (dko_167 _) (by decide +kernel)
theorem d_Mo_start_285 : decode b_Mo_start 285 = .ok (.lconst 0, 1) := dk_0 a_Mo_start_285 (dko_9 _)
theorem d_Mo_start_286 : decode b_Mo_start 286 = .ok (.lastore, 1) := dk_0 a_Mo_start_286 (dko_80 _)
theorem d_Mo_start_287 : decode b_Mo_start 287 = .ok (.iinc 3 1, 3) := dk_US a_Mo_start_287 (dko_132 _) (by decide +kernel)
theorem d_Mo_start_290 : decode b_Mo_start 290 = .ok (.goto (-67), 3) := dk_S2 a_Mo_start_290 (dko_167 _) (by decide +kernel)
theorem d_Mo_start_293 : decode b_Mo_start 293 = .ok (.aload_n 0, 1) := dk_0 a_Mo_start_293 (dko_42 _)
theorem d_Mo_start_294 : decode b_Mo_start 294 = .ok (.iconst 0, 1) := dk_0 a_Mo_start_294 (dko_3 _)
theorem d_Mo_start_295 : decode b_Mo_start 295 = .ok (.putfield 162, 3) := dk_U2 a_Mo_start_295 (dko_181 _) rfl
theorem d_Mo_start_298 : decode b_Mo_start 298 = .ok (.aload_n 0, 1) := dk_0 a_Mo_start_298 (dko_42 _)
theorem d_Mo_start_299 : decode b_Mo_start 299 = .ok (.iconst 0, 1) := dk_0 a_Mo_start_299 (dko_3 _)
theorem d_Mo_start_300 : decode b_Mo_start 300 = .ok (.putfield 520, 3) := dk_U2 a_Mo_start_300 (dko_181 _) rfl
theorem d_Mo_start_303 : decode b_Mo_start 303 = .ok (.aload_n 0, 1) := dk_0 a_Mo_start_303 (dko_42 _)
theorem d_Mo_start_304 : decode b_Mo_start 304 = .ok (.iconst 0, 1) := dk_0 a_Mo_start_304 (dko_3 _)
theorem d_Mo_start_305 : decode b_Mo_start 305 = .ok (.putfield 433, 3) := dk_U2 a_Mo_start_305 (dko_181 _) rfl
theorem d_Mo_start_308 : decode b_Mo_start 308 = .ok (.iconst 1, 1) := dk_0 a_Mo_start_308 (dko_4 _)
theorem d_Mo_start_309 : decode b_Mo_start 309 = .ok (.ireturn, 1) := dk_0 a_Mo_start_309 (dko_172 _)
set_option maxHeartbeats 4000000 in
set_option maxRecDepth 100000 in
theorem ok_Mo_start (pc : Nat) : OpS mt mi_Mo_start pc (cs_Mo_start pc) := (os_n (os_n (os_n (os_n (os_n (os_n (os_n (os_l (so_iconst d_Mo_start_0 (by decide))) (os_l (so_istore_n d_Mo_start_1 rfl (by decide)))) (os_n (os_l (so_iconst d_Mo_start_2 (by decide))) (os_n (os_l (so_istore_n d_Mo_start_3 rfl (by decide))) (os_l (so_iload_n d_Mo_start_4 rfl))))) (os_n (os_n (os_l (so_aload_n d_Mo_start_5 rfl)) (os_l (so_get (C := R_Mo) (T := F_Mo) (N := 87) (j := 2) in_Mo rfl (by decide) mw_1796 d_Mo_start_6))) (os_n (os_l (so_getN (C := R_Tx) (T := F_Tx) (N := 39) (j := 31) in_Tx rfl (by decide) nw_1618 d_Mo_start_9)) (os_n (os_l (so_icge d_Mo_start_12 (by decide))) (os_l (so_iload_n d_Mo_start_15 rfl)))))) (os_n (os_n (os_n (os_l (so_ifne d_Mo_start_16 (by decide))) (os_l (so_aload_n d_Mo_start_19 rfl))) (os_n (os_l (so_get (C := R_Mo) (T := F_Mo) (N := 87) (j := 2) in_Mo rfl (by decide) mw_1796 d_Mo_start_20)) (os_n (os_l (so_getN (C := R_Tx) (T := F_Tx) (N := 39) (j := 14) in_Tx rfl (by decide) nw_1595 d_Mo_start_23)) (os_l (so_aload_n d_Mo_start_26 rfl))))) (os_n (os_n (os_l (so_get (C := R_Mo) (T := F_Mo) (N := 87) (j := 2) in_Mo rfl (by decide) mw_1796 d_Mo_start_27)) (os_n (os_l (so_aload_n d_Mo_start_30 rfl)) (os_l (so_get (C := R_Mo) (T := F_Mo) (N := 87) (j := 2) in_Mo rfl (by decide) mw_1796 d_Mo_start_31)))) (os_n (os_l (so_getN (C := R_Tx) (T := F_Tx) (N := 39) (j := 22) in_Tx rfl (by decide) nw_1606 d_Mo_start_34)) (os_n (os_l (so_sipush d_Mo_start_37 (by decide))) (os_l (so_aload_n d_Mo_start_40 rfl))))))) (os_n (os_n (os_n (os_n (os_l (so_get (C := R_Mo) (T := F_Mo) (N := 87) (j := 2) in_Mo rfl (by decide) mw_1796 d_Mo_start_41)) (os_l (so_getN (C := R_Tx) (T := F_Tx) (N := 39) (j := 12) in_Tx rfl (by decide) nw_1592 d_Mo_start_44))) (os_n (os_l (so_imul d_Mo_start_47)) (os_n (os_l (so_iload_n d_Mo_start_48 rfl)) (os_l (so_iadd d_Mo_start_49))))) (os_n (os_n (os_l (so_iaload d_Mo_start_50)) (os_n (os_l (so_callVN (iv := mi_Tx_node1) rfl rfl rfl nw_2578 mw_2580 sl_175 mw_19 mw_2581 ⟨by decide +kernel, by decide +kernel, by decide +kernel⟩ (by decide) d_Mo_start_51)) (os_l (so_iaload d_Mo_start_54)))) (os_n (os_l (so_bipush d_Mo_start_55 (by decide))) (os_n (os_l (so_iceq d_Mo_start_57 (by decide))) (os_l (so_iconst d_Mo_start_60 (by decide))))))) (os_n (os_n (os_n (os_l (so_goto d_Mo_start_61 (by decide))) (os_l (so_iconst d_Mo_start_64 (by decide)))) (os_n (os_l (so_istore_n d_Mo_start_65 rfl (by decide))) (os_n (os_l (so_iinc d_Mo_start_66 (by decide) (by decide))) (os_l (so_goto d_Mo_start_69 (by decide)))))) (os_n (os_n (os_l (so_iload_n d_Mo_start_72 rfl)) (os_n (os_l (so_ifne d_Mo_start_73 (by decide))) (os_l (so_iconst d_Mo_start_76 (by decide))))) (os_n (os_l (so_zreturn rfl d_Mo_start_77)) (os_n (os_l (so_aload_n d_Mo_start_78 rfl)) (os_l (so_get (C := R_Mo) (T := F_Mo) (N := 87) (j := 59) in_Mo rfl (by decide) mw_1853 d_Mo_start_79)))))))) (os_n (os_n (os_n (os_n (os_n (os_l (so_ifeq d_Mo_start_82 (by decide))) (os_l (so_aload_n d_Mo_start_85 rfl))) (os_n (os_l (so_get (C := R_Mo) (T := F_Mo) (N := 87) (j := 59) in_Mo rfl (by decide) mw_1853 d_Mo_start_86)) (os_n (os_l (so_iconst d_Mo_start_89 (by decide))) (os_l (so_icne d_Mo_start_90 (by decide)))))) (os_n (os_n (os_l (so_aload_n d_Mo_start_93 rfl)) (os_l (so_callV (iv := mi_Mo_closeAll) rfl rfl rfl mw_2335 mw_2337 sl_139 mw_18 mw_2338 ⟨by decide +kernel, by decide +kernel, by decide +kernel⟩ (by decide) d_Mo_start_94))) (os_n (os_l (so_aload_n d_Mo_start_97 rfl)) (os_n (os_l (so_iconst d_Mo_start_98 (by decide))) (os_l (so_putI (C := R_Mo) (T := F_Mo) (N := 87) (j := 60) in_Mo t_Mo_ok n_Mo rfl (by decide) mw_1854 rfl (by decide +kernel) d_Mo_start_99)))))) (os_n (os_n (os_n (os_l (so_aload_n d_Mo_start_102 rfl)) (os_l (so_get (C := R_Mo) (T := F_Mo) (N := 87) (j := 61) in_Mo rfl (by decide) mw_1855 d_Mo_start_103))) (os_n (os_l (so_iconst d_Mo_start_106 (by decide))) (os_n (os_l (so_iconst d_Mo_start_107 (by decide))) (os_l (so_iastore d_Mo_start_108))))) (os_n (os_n (os_l (so_aload_n d_Mo_start_109 rfl)) (os_n (os_l (so_get (C := R_Mo) (T := F_Mo) (N := 87) (j := 64) in_Mo rfl (by decide) mw_1858 d_Mo_start_110)) (os_l (so_iconst d_Mo_start_113 (by decide))))) (os_n (os_l (so_iconst d_Mo_start_114 (by decide))) (os_n (os_l (so_bastore d_Mo_start_115)) (os_l (so_aload_n d_Mo_start_116 rfl))))))) (os_n (os_n (os_n (os_n (os_l (so_get (C := R_Mo) (T := F_Mo) (N := 87) (j := 62) in_Mo rfl (by decide) mw_1856 d_Mo_start_117)) (os_l (so_iconst d_Mo_start_120 (by decide)))) (os_n (os_l (so_iconst d_Mo_start_121 (by decide))) (os_n (os_l (so_iastore d_Mo_start_122)) (os_l (so_aload_n d_Mo_start_123 rfl))))) (os_n (os_n (os_l (so_get (C := R_Mo) (T := F_Mo) (N := 87) (j := 63) in_Mo rfl (by decide) mw_1857 d_Mo_start_124)) (os_n (os_l (so_iconst d_Mo_start_127 (by decide))) (os_l (so_iconst d_Mo_start_128 (by decide))))) (os_n (os_l (so_iastore d_Mo_start_129)) (os_n (os_l (so_iconst d_Mo_start_130 (by decide))) (os_l (so_istore_n d_Mo_start_131 rfl (by decide))))))) (os_n (os_n (os_n (os_l (so_iconst d_Mo_start_132 (by decide))) (os_l (so_istore_n d_Mo_start_133 rfl (by decide)))) (os_n (os_l (so_iload_n d_Mo_start_134 rfl)) (os_n (os_l (so_aload_n d_Mo_start_135 rfl)) (os_l (so_get (C := R_Mo) (T := F_Mo) (N := 87) (j := 2) in_Mo rfl (by decide) mw_1796 d_Mo_start_136))))) (os_n (os_n (os_l (so_getN (C := R_Tx) (T := F_Tx) (N := 39) (j := 31) in_Tx rfl (by decide) nw_1618 d_Mo_start_139)) (os_n (os_l (so_icge d_Mo_start_142 (by decide))) (os_l (so_aload_n d_Mo_start_145 rfl)))) (os_n (os_l (so_get (C := R_Mo) (T := F_Mo) (N := 87) (j := 2) in_Mo rfl (by decide) mw_1796 d_Mo_start_146)) (os_n (os_l (so_getN (C := R_Tx) (T := F_Tx) (N := 39) (j := 22) in_Tx rfl (by decide) nw_1606 d_Mo_start_149)) (os_l (so_sipush d_Mo_start_152 (by decide)))))))))) (os_n (os_n (os_n (os_n (os_n (os_n (os_l (so_aload_n d_Mo_start_155 rfl)) (os_l (so_get (C := R_Mo) (T := F_Mo) (N := 87) (j := 2) in_Mo rfl (by decide) mw_1796 d_Mo_start_156))) (os_n (os_l (so_getN (C := R_Tx) (T := F_Tx) (N := 39) (j := 12) in_Tx rfl (by decide) nw_1592 d_Mo_start_159)) (os_n (os_l (so_imul d_Mo_start_162)) (os_l (so_iload_n d_Mo_start_163 rfl))))) (os_n (os_n (os_l (so_iadd d_Mo_start_164)) (os_l (so_iaload d_Mo_start_165))) (os_n (os_l (so_istore d_Mo_start_166 (by decide))) (os_n (os_l (so_aload_n d_Mo_start_168 rfl)) (os_l (so_get (C := R_Mo) (T := F_Mo) (N := 87) (j := 2) in_Mo rfl (by decide) mw_1796 d_Mo_start_169)))))) (os_n (os_n (os_n (os_l (so_getN (C := R_Tx) (T := F_Tx) (N := 39) (j := 14) in_Tx rfl (by decide) nw_1595 d_Mo_start_172)) (os_l (so_aload_n d_Mo_start_175 rfl))) (os_n (os_l (so_get (C := R_Mo) (T := F_Mo) (N := 87) (j := 2) in_Mo rfl (by decide) mw_1796 d_Mo_start_176)) (os_n (os_l (so_iload d_Mo_start_179)) (os_l (so_callVN (iv := mi_Tx_node1) rfl rfl rfl nw_2578 mw_2580 sl_175 mw_19 mw_2581 ⟨by decide +kernel, by decide +kernel, by decide +kernel⟩ (by decide) d_Mo_start_181))))) (os_n (os_n (os_l (so_iaload d_Mo_start_184)) (os_n (os_l (so_bipush d_Mo_start_185 (by decide))) (os_l (so_iceq d_Mo_start_187 (by decide))))) (os_n (os_l (so_aload_n d_Mo_start_190 rfl)) (os_n (os_l (so_iconst d_Mo_start_191 (by decide))) (os_l (so_iload_n d_Mo_start_192 rfl))))))) (os_n (os_n (os_n (os_n (os_l (so_aload_n d_Mo_start_193 rfl)) (os_l (so_iload d_Mo_start_194))) (os_n (os_l (so_callV (iv := mi_Mo_lay) rfl rfl rfl mw_2582 mw_2584 sl_176 mw_18 mw_2585 ⟨by decide +kernel, by decide +kernel, by decide +kernel⟩ (by decide) d_Mo_start_196)) (os_n (os_l (so_callV (iv := mi_Mo_hang) rfl rfl rfl mw_2595 mw_2597 sl_179 mw_18 mw_2598 ⟨by decide +kernel, by decide +kernel, by decide +kernel⟩ (by decide) d_Mo_start_199)) (os_l (so_istore_n d_Mo_start_202 rfl (by decide)))))) (os_n (os_n (os_l (so_iinc d_Mo_start_203 (by decide) (by decide))) (os_n (os_l (so_goto d_Mo_start_206 (by decide))) (os_l (so_aload_n d_Mo_start_209 rfl)))) (os_n (os_l (so_get (C := R_Mo) (T := F_Mo) (N := 87) (j := 67) in_Mo rfl (by decide) mw_1861 d_Mo_start_210)) (os_n (os_l (so_iconst d_Mo_start_213 (by decide))) (os_l (so_aload_n d_Mo_start_214 rfl)))))) (os_n (os_n (os_n (os_l (so_get (C := R_Mo) (T := F_Mo) (N := 87) (j := 62) in_Mo rfl (by decide) mw_1856 d_Mo_start_215)) (os_l (so_iconst d_Mo_start_218 (by decide)))) (os_n (os_l (so_iaload d_Mo_start_219)) (os_n (os_l (so_iastore d_Mo_start_220)) (os_l (so_iconst d_Mo_start_221 (by decide)))))) (os_n (os_n (os_l (so_istore_n d_Mo_start_222 rfl (by decide))) (os_n (os_l (so_iload_n d_Mo_start_223 rfl)) (os_l (so_bipush d_Mo_start_224 (by decide))))) (os_n (os_l (so_icge d_Mo_start_226 (by decide))) (os_n (os_l (so_aload_n d_Mo_start_229 rfl)) (os_l (so_iload_n d_Mo_start_230 rfl)))))))) (os_n (os_n (os_n (os_n (os_n (os_l (so_bipush d_Mo_start_231 (by decide))) (os_l (so_callV (iv := mi_Mo_isRole) rfl rfl rfl mw_2529 mw_2531 sl_173 mw_18 mw_2532 ⟨by decide +kernel, by decide +kernel, by decide +kernel⟩ (by decide) d_Mo_start_233))) (os_n (os_l (so_ifeq d_Mo_start_236 (by decide))) (os_n (os_l (so_aload_n d_Mo_start_239 rfl)) (os_l (so_get (C := R_Mo) (T := F_Mo) (N := 87) (j := 53) in_Mo rfl (by decide) mw_1847 d_Mo_start_240))))) (os_n (os_n (os_l (so_iload_n d_Mo_start_243 rfl)) (os_n (os_l (so_iaload d_Mo_start_244)) (os_l (so_iconst d_Mo_start_245 (by decide))))) (os_n (os_l (so_iceq d_Mo_start_246 (by decide))) (os_n (os_l (so_aload_n d_Mo_start_249 rfl)) (os_l (so_get (C := R_Mo) (T := F_Mo) (N := 87) (j := 53) in_Mo rfl (by decide) mw_1847 d_Mo_start_250)))))) (os_n (os_n (os_n (os_l (so_iload_n d_Mo_start_253 rfl)) (os_l (so_iaload d_Mo_start_254))) (os_n (os_l (so_iconst d_Mo_start_255 (by decide))) (os_n (os_l (so_icge d_Mo_start_256 (by decide))) (os_l (so_iconst d_Mo_start_259 (by decide)))))) (os_n (os_n (os_l (so_goto d_Mo_start_260 (by decide))) (os_n (os_l (so_iconst d_Mo_start_263 (by decide))) (os_l (so_istore d_Mo_start_264 (by decide))))) (os_n (os_l (so_aload_n d_Mo_start_266 rfl)) (os_n (os_l (so_get (C := R_Mo) (T := F_Mo) (N := 87) (j := 58) in_Mo rfl (by decide) mw_1852 d_Mo_start_267)) (os_l (so_iload_n d_Mo_start_270 rfl))))))) (os_n (os_n (os_n (os_n (os_l (so_iload d_Mo_start_271)) (os_l (so_ifeq d_Mo_start_273 (by decide)))) (os_n (os_l (so_aload_n d_Mo_start_276 rfl)) (os_n (os_l (so_get (C := R_Mo) (T := F_Mo) (N := 87) (j := 58) in_Mo rfl (by decide) mw_1852 d_Mo_start_277)) (os_l (so_iload_n d_Mo_start_280 rfl))))) (os_n (os_n (os_l (so_laload d_Mo_start_281)) (os_n (os_l (so_goto d_Mo_start_282 (by decide))) (os_l (so_lconst d_Mo_start_285 (by decide))))) (os_n (os_l (so_lastore d_Mo_start_286)) (os_n (os_l (so_iinc d_Mo_start_287 (by decide) (by decide))) (os_l (so_goto d_Mo_start_290 (by decide))))))) (os_n (os_n (os_n (os_l (so_aload_n d_Mo_start_293 rfl)) (os_l (so_iconst d_Mo_start_294 (by decide)))) (os_n (os_l (so_putI (C := R_Mo) (T := F_Mo) (N := 87) (j := 59) in_Mo t_Mo_ok n_Mo rfl (by decide) mw_1853 rfl (by decide +kernel) d_Mo_start_295)) (os_n (os_l (so_aload_n d_Mo_start_298 rfl)) (os_l (so_iconst d_Mo_start_299 (by decide)))))) (os_n (os_n (os_l (so_putI (C := R_Mo) (T := F_Mo) (N := 87) (j := 74) in_Mo t_Mo_ok n_Mo rfl (by decide) mw_1868 rfl (by decide +kernel) d_Mo_start_300)) (os_n (os_l (so_aload_n d_Mo_start_303 rfl)) (os_l (so_iconst d_Mo_start_304 (by decide))))) (os_n (os_l (so_putI (C := R_Mo) (T := F_Mo) (N := 87) (j := 79) in_Mo t_Mo_ok n_Mo rfl (by decide) mw_1873 rfl (by decide +kernel) d_Mo_start_305)) (os_n (os_l (so_iconst d_Mo_start_308 (by decide))) (os_l (so_zreturn rfl d_Mo_start_309))))))))))
abbrev t_Mo_reckon_254 : List UInt8 := 173 :: []
abbrev t_Mo_reckon_253 : List UInt8 := 9 :: t_Mo_reckon_254
abbrev t_Mo_reckon_250 : List UInt8 := 167 :: 0 :: 4 :: t_Mo_reckon_253
abbrev t_Mo_reckon_247 : List UInt8 := 20 :: 1 :: 198 :: t_Mo_reckon_250
abbrev t_Mo_reckon_244 : List UInt8 := 158 :: 0 :: 9 :: t_Mo_reckon_247
abbrev t_Mo_reckon_243 : List UInt8 := 148 :: t_Mo_reckon_244
abbrev t_Mo_reckon_241 : List UInt8 := 22 :: 5 :: t_Mo_reckon_243
abbrev t_Mo_reckon_240 : List UInt8 := 33 :: t_Mo_reckon_241
abbrev t_Mo_reckon_239 : List UInt8 := 173 :: t_Mo_reckon_240
abbrev t_Mo_reckon_238 : List UInt8 := 9 :: t_Mo_reckon_239
abbrev t_Mo_reckon_235 : List UInt8 := 167 :: 0 :: 4 :: t_Mo_reckon_238
abbrev t_Mo_reckon_232 : List UInt8 := 20 :: 1 :: 198 :: t_Mo_reckon_235
abbrev t_Mo_reckon_229 : List UInt8 := 154 :: 0 :: 9 :: t_Mo_reckon_232
abbrev t_Mo_reckon_228 : List UInt8 := 148 :: t_Mo_reckon_229
abbrev t_Mo_reckon_226 : List UInt8 := 22 :: 5 :: t_Mo_reckon_228
abbrev t_Mo_reckon_225 : List UInt8 := 33 :: t_Mo_reckon_226
abbrev t_Mo_reckon_224 : List UInt8 := 173 :: t_Mo_reckon_225
abbrev t_Mo_reckon_223 : List UInt8 := 9 :: t_Mo_reckon_224
abbrev t_Mo_reckon_220 : List UInt8 := 167 :: 0 :: 4 :: t_Mo_reckon_223
abbrev t_Mo_reckon_217 : List UInt8 := 20 :: 1 :: 198 :: t_Mo_reckon_220
abbrev t_Mo_reckon_214 : List UInt8 := 156 :: 0 :: 9 :: t_Mo_reckon_217
abbrev t_Mo_reckon_213 : List UInt8 := 148 :: t_Mo_reckon_214
abbrev t_Mo_reckon_211 : List UInt8 := 22 :: 5 :: t_Mo_reckon_213
abbrev t_Mo_reckon_210 : List UInt8 := 33 :: t_Mo_reckon_211
abbrev t_Mo_reckon_209 : List UInt8 := 173 :: t_Mo_reckon_210
abbrev t_Mo_reckon_208 : List UInt8 := 109 :: t_Mo_reckon_209
abbrev t_Mo_reckon_206 : List UInt8 := 22 :: 5 :: t_Mo_reckon_208
abbrev t_Mo_reckon_205 : List UInt8 := 105 :: t_Mo_reckon_206
abbrev t_Mo_reckon_202 : List UInt8 := 20 :: 1 :: 198 :: t_Mo_reckon_205
abbrev t_Mo_reckon_201 : List UInt8 := 33 :: t_Mo_reckon_202
abbrev t_Mo_reckon_200 : List UInt8 := 173 :: t_Mo_reckon_201
abbrev t_Mo_reckon_199 : List UInt8 := 9 :: t_Mo_reckon_200
abbrev t_Mo_reckon_196 : List UInt8 := 181 :: 0 :: 199 :: t_Mo_reckon_199
abbrev t_Mo_reckon_195 : List UInt8 := 27 :: t_Mo_reckon_196
abbrev t_Mo_reckon_194 : List UInt8 := 42 :: t_Mo_reckon_195
abbrev t_Mo_reckon_191 : List UInt8 := 154 :: 0 :: 10 :: t_Mo_reckon_194
abbrev t_Mo_reckon_190 : List UInt8 := 148 :: t_Mo_reckon_191
abbrev t_Mo_reckon_189 : List UInt8 := 9 :: t_Mo_reckon_190
abbrev t_Mo_reckon_187 : List UInt8 := 22 :: 5 :: t_Mo_reckon_189
abbrev t_Mo_reckon_186 : List UInt8 := 173 :: t_Mo_reckon_187
abbrev t_Mo_reckon_185 : List UInt8 := 109 :: t_Mo_reckon_186
abbrev t_Mo_reckon_182 : List UInt8 := 20 :: 1 :: 198 :: t_Mo_reckon_185
abbrev t_Mo_reckon_181 : List UInt8 := 105 :: t_Mo_reckon_182
abbrev t_Mo_reckon_179 : List UInt8 := 22 :: 5 :: t_Mo_reckon_181
abbrev t_Mo_reckon_178 : List UInt8 := 33 :: t_Mo_reckon_179
abbrev t_Mo_reckon_177 : List UInt8 := 173 :: t_Mo_reckon_178
abbrev t_Mo_reckon_176 : List UInt8 := 101 :: t_Mo_reckon_177
abbrev t_Mo_reckon_174 : List UInt8 := 22 :: 5 :: t_Mo_reckon_176
abbrev t_Mo_reckon_173 : List UInt8 := 33 :: t_Mo_reckon_174
abbrev t_Mo_reckon_172 : List UInt8 := 173 :: t_Mo_reckon_173
abbrev t_Mo_reckon_171 : List UInt8 := 97 :: t_Mo_reckon_172
abbrev t_Mo_reckon_169 : List UInt8 := 22 :: 5 :: t_Mo_reckon_171
abbrev t_Mo_reckon_168 : List UInt8 := 33 :: t_Mo_reckon_169
abbrev t_Mo_reckon_125 : List UInt8 := 170 :: 0 :: 0 :: 0 :: 0 :: 0 :: 115 :: 0 :: 0 :: 0 :: 2 :: 0 :: 0 :: 0 :: 8 :: 0 :: 0 :: 0 :: 43 :: 0 :: 0 :: 0 :: 48 :: 0 :: 0 :: 0 :: 53 :: 0 :: 0 :: 0 :: 62 :: 0 :: 0 :: 0 :: 115 :: 0 :: 0 :: 0 :: 85 :: 0 :: 0 :: 0 :: 100 :: t_Mo_reckon_168
abbrev t_Mo_reckon_124 : List UInt8 := 28 :: t_Mo_reckon_125
abbrev t_Mo_reckon_123 : List UInt8 := 173 :: t_Mo_reckon_124
abbrev t_Mo_reckon_122 : List UInt8 := 9 :: t_Mo_reckon_123
abbrev t_Mo_reckon_119 : List UInt8 := 159 :: 0 :: 5 :: t_Mo_reckon_122
abbrev t_Mo_reckon_118 : List UInt8 := 2 :: t_Mo_reckon_119
abbrev t_Mo_reckon_115 : List UInt8 := 180 :: 0 :: 199 :: t_Mo_reckon_118
abbrev t_Mo_reckon_114 : List UInt8 := 42 :: t_Mo_reckon_115
abbrev t_Mo_reckon_112 : List UInt8 := 55 :: 5 :: t_Mo_reckon_114
abbrev t_Mo_reckon_109 : List UInt8 := 182 :: 2 :: 11 :: t_Mo_reckon_112
abbrev t_Mo_reckon_106 : List UInt8 := 182 :: 1 :: 246 :: t_Mo_reckon_109
abbrev t_Mo_reckon_105 : List UInt8 := 4 :: t_Mo_reckon_106
abbrev t_Mo_reckon_104 : List UInt8 := 27 :: t_Mo_reckon_105
abbrev t_Mo_reckon_101 : List UInt8 := 180 :: 0 :: 16 :: t_Mo_reckon_104
abbrev t_Mo_reckon_100 : List UInt8 := 42 :: t_Mo_reckon_101
abbrev t_Mo_reckon_99 : List UInt8 := 42 :: t_Mo_reckon_100
abbrev t_Mo_reckon_98 : List UInt8 := 173 :: t_Mo_reckon_99
abbrev t_Mo_reckon_97 : List UInt8 := 117 :: t_Mo_reckon_98
abbrev t_Mo_reckon_96 : List UInt8 := 33 :: t_Mo_reckon_97
abbrev t_Mo_reckon_93 : List UInt8 := 160 :: 0 :: 6 :: t_Mo_reckon_96
abbrev t_Mo_reckon_91 : List UInt8 := 16 :: 6 :: t_Mo_reckon_93
abbrev t_Mo_reckon_90 : List UInt8 := 28 :: t_Mo_reckon_91
abbrev t_Mo_reckon_89 : List UInt8 := 66 :: t_Mo_reckon_90
abbrev t_Mo_reckon_86 : List UInt8 := 182 :: 2 :: 11 :: t_Mo_reckon_89
abbrev t_Mo_reckon_83 : List UInt8 := 182 :: 1 :: 246 :: t_Mo_reckon_86
abbrev t_Mo_reckon_82 : List UInt8 := 3 :: t_Mo_reckon_83
abbrev t_Mo_reckon_81 : List UInt8 := 27 :: t_Mo_reckon_82
abbrev t_Mo_reckon_78 : List UInt8 := 180 :: 0 :: 16 :: t_Mo_reckon_81
abbrev t_Mo_reckon_77 : List UInt8 := 42 :: t_Mo_reckon_78
abbrev t_Mo_reckon_76 : List UInt8 := 42 :: t_Mo_reckon_77
abbrev t_Mo_reckon_75 : List UInt8 := 173 :: t_Mo_reckon_76
abbrev t_Mo_reckon_74 : List UInt8 := 47 :: t_Mo_reckon_75
abbrev t_Mo_reckon_73 : List UInt8 := 136 :: t_Mo_reckon_74
abbrev t_Mo_reckon_72 : List UInt8 := 47 :: t_Mo_reckon_73
abbrev t_Mo_reckon_69 : List UInt8 := 182 :: 1 :: 231 :: t_Mo_reckon_72
abbrev t_Mo_reckon_68 : List UInt8 := 27 :: t_Mo_reckon_69
abbrev t_Mo_reckon_65 : List UInt8 := 180 :: 0 :: 16 :: t_Mo_reckon_68
abbrev t_Mo_reckon_64 : List UInt8 := 42 :: t_Mo_reckon_65
abbrev t_Mo_reckon_61 : List UInt8 := 180 :: 1 :: 243 :: t_Mo_reckon_64
abbrev t_Mo_reckon_58 : List UInt8 := 180 :: 0 :: 16 :: t_Mo_reckon_61
abbrev t_Mo_reckon_57 : List UInt8 := 42 :: t_Mo_reckon_58
abbrev t_Mo_reckon_54 : List UInt8 := 180 :: 0 :: 159 :: t_Mo_reckon_57
abbrev t_Mo_reckon_53 : List UInt8 := 42 :: t_Mo_reckon_54
abbrev t_Mo_reckon_50 : List UInt8 := 160 :: 0 :: 26 :: t_Mo_reckon_53
abbrev t_Mo_reckon_49 : List UInt8 := 4 :: t_Mo_reckon_50
abbrev t_Mo_reckon_48 : List UInt8 := 28 :: t_Mo_reckon_49
abbrev t_Mo_reckon_47 : List UInt8 := 173 :: t_Mo_reckon_48
abbrev t_Mo_reckon_46 : List UInt8 := 47 :: t_Mo_reckon_47
abbrev t_Mo_reckon_43 : List UInt8 := 182 :: 1 :: 231 :: t_Mo_reckon_46
abbrev t_Mo_reckon_42 : List UInt8 := 27 :: t_Mo_reckon_43
abbrev t_Mo_reckon_39 : List UInt8 := 180 :: 0 :: 16 :: t_Mo_reckon_42
abbrev t_Mo_reckon_38 : List UInt8 := 42 :: t_Mo_reckon_39
abbrev t_Mo_reckon_35 : List UInt8 := 180 :: 1 :: 243 :: t_Mo_reckon_38
abbrev t_Mo_reckon_32 : List UInt8 := 180 :: 0 :: 16 :: t_Mo_reckon_35
abbrev t_Mo_reckon_31 : List UInt8 := 42 :: t_Mo_reckon_32
abbrev t_Mo_reckon_28 : List UInt8 := 154 :: 0 :: 20 :: t_Mo_reckon_31
abbrev t_Mo_reckon_27 : List UInt8 := 28 :: t_Mo_reckon_28
abbrev t_Mo_reckon_26 : List UInt8 := 61 :: t_Mo_reckon_27
abbrev t_Mo_reckon_25 : List UInt8 := 46 :: t_Mo_reckon_26
abbrev t_Mo_reckon_22 : List UInt8 := 182 :: 1 :: 231 :: t_Mo_reckon_25
abbrev t_Mo_reckon_21 : List UInt8 := 27 :: t_Mo_reckon_22
abbrev t_Mo_reckon_18 : List UInt8 := 180 :: 0 :: 16 :: t_Mo_reckon_21
abbrev t_Mo_reckon_17 : List UInt8 := 42 :: t_Mo_reckon_18
abbrev t_Mo_reckon_14 : List UInt8 := 180 :: 1 :: 228 :: t_Mo_reckon_17
abbrev t_Mo_reckon_11 : List UInt8 := 180 :: 0 :: 16 :: t_Mo_reckon_14
abbrev t_Mo_reckon_10 : List UInt8 := 42 :: t_Mo_reckon_11
abbrev t_Mo_reckon_9 : List UInt8 := 173 :: t_Mo_reckon_10
abbrev t_Mo_reckon_8 : List UInt8 := 9 :: t_Mo_reckon_9
abbrev t_Mo_reckon_5 : List UInt8 := 159 :: 0 :: 5 :: t_Mo_reckon_8
abbrev t_Mo_reckon_4 : List UInt8 := 2 :: t_Mo_reckon_5
abbrev t_Mo_reckon_1 : List UInt8 := 180 :: 0 :: 199 :: t_Mo_reckon_4
abbrev t_Mo_reckon_0 : List UInt8 := 42 :: t_Mo_reckon_1
theorem a_Mo_reckon_0 : dk_at b_Mo_reckon 0 t_Mo_reckon_0 := dk_start (by decide +kernel)
theorem a_Mo_reckon_1 : dk_at b_Mo_reckon 1 t_Mo_reckon_1 := dk_go 1 a_Mo_reckon_0 rfl
theorem a_Mo_reckon_4 : dk_at b_Mo_reckon 4 t_Mo_reckon_4 := dk_go 3 a_Mo_reckon_1 rfl
theorem a_Mo_reckon_5 : dk_at b_Mo_reckon 5 t_Mo_reckon_5 := dk_go 1 a_Mo_reckon_4 rfl
theorem a_Mo_reckon_8 : dk_at b_Mo_reckon 8 t_Mo_reckon_8 := dk_go 3 a_Mo_reckon_5 rfl
theorem a_Mo_reckon_9 : dk_at b_Mo_reckon 9 t_Mo_reckon_9 := dk_go 1 a_Mo_reckon_8 rfl
theorem a_Mo_reckon_10 : dk_at b_Mo_reckon 10 t_Mo_reckon_10 := dk_go 1 a_Mo_reckon_9 rfl
theorem a_Mo_reckon_11 : dk_at b_Mo_reckon 11 t_Mo_reckon_11 := dk_go 1 a_Mo_reckon_10 rfl
theorem a_Mo_reckon_14 : dk_at b_Mo_reckon 14 t_Mo_reckon_14 := dk_go 3 a_Mo_reckon_11 rfl
theorem a_Mo_reckon_17 : dk_at b_Mo_reckon 17 t_Mo_reckon_17 := dk_go 3 a_Mo_reckon_14 rfl
theorem a_Mo_reckon_18 : dk_at b_Mo_reckon 18 t_Mo_reckon_18 := dk_go 1 a_Mo_reckon_17 rfl
theorem a_Mo_reckon_21 : dk_at b_Mo_reckon 21 t_Mo_reckon_21 := dk_go 3 a_Mo_reckon_18 rfl
theorem a_Mo_reckon_22 : dk_at b_Mo_reckon 22 t_Mo_reckon_22 := dk_go 1 a_Mo_reckon_21 rfl
theorem a_Mo_reckon_25 : dk_at b_Mo_reckon 25 t_Mo_reckon_25 := dk_go 3 a_Mo_reckon_22 rfl
theorem a_Mo_reckon_26 : dk_at b_Mo_reckon 26 t_Mo_reckon_26 := dk_go 1 a_Mo_reckon_25 rfl
theorem a_Mo_reckon_27 : dk_at b_Mo_reckon 27 t_Mo_reckon_27 := dk_go 1 a_Mo_reckon_26 rfl
theorem a_Mo_reckon_28 : dk_at b_Mo_reckon 28 t_Mo_reckon_28 := dk_go 1 a_Mo_reckon_27 rfl
theorem a_Mo_reckon_31 : dk_at b_Mo_reckon 31 t_Mo_reckon_31 := dk_go 3 a_Mo_reckon_28 rfl
theorem a_Mo_reckon_32 : dk_at b_Mo_reckon 32 t_Mo_reckon_32 := dk_go 1 a_Mo_reckon_31 rfl
theorem a_Mo_reckon_35 : dk_at b_Mo_reckon 35 t_Mo_reckon_35 := dk_go 3 a_Mo_reckon_32 rfl
theorem a_Mo_reckon_38 : dk_at b_Mo_reckon 38 t_Mo_reckon_38 := dk_go 3 a_Mo_reckon_35 rfl
theorem a_Mo_reckon_39 : dk_at b_Mo_reckon 39 t_Mo_reckon_39 := dk_go 1 a_Mo_reckon_38 rfl
theorem a_Mo_reckon_42 : dk_at b_Mo_reckon 42 t_Mo_reckon_42 := dk_go 3 a_Mo_reckon_39 rfl
theorem a_Mo_reckon_43 : dk_at b_Mo_reckon 43 t_Mo_reckon_43 := dk_go 1 a_Mo_reckon_42 rfl
theorem a_Mo_reckon_46 : dk_at b_Mo_reckon 46 t_Mo_reckon_46 := dk_go 3 a_Mo_reckon_43 rfl
theorem a_Mo_reckon_47 : dk_at b_Mo_reckon 47 t_Mo_reckon_47 := dk_go 1 a_Mo_reckon_46 rfl
theorem a_Mo_reckon_48 : dk_at b_Mo_reckon 48 t_Mo_reckon_48 := dk_go 1 a_Mo_reckon_47 rfl
theorem a_Mo_reckon_49 : dk_at b_Mo_reckon 49 t_Mo_reckon_49 := dk_go 1 a_Mo_reckon_48 rfl
theorem a_Mo_reckon_50 : dk_at b_Mo_reckon 50 t_Mo_reckon_50 := dk_go 1 a_Mo_reckon_49 rfl
theorem a_Mo_reckon_53 : dk_at b_Mo_reckon 53 t_Mo_reckon_53 := dk_go 3 a_Mo_reckon_50 rfl
theorem a_Mo_reckon_54 : dk_at b_Mo_reckon 54 t_Mo_reckon_54 := dk_go 1 a_Mo_reckon_53 rfl
theorem a_Mo_reckon_57 : dk_at b_Mo_reckon 57 t_Mo_reckon_57 := dk_go 3 a_Mo_reckon_54 rfl
theorem a_Mo_reckon_58 : dk_at b_Mo_reckon 58 t_Mo_reckon_58 := dk_go 1 a_Mo_reckon_57 rfl
theorem a_Mo_reckon_61 : dk_at b_Mo_reckon 61 t_Mo_reckon_61 := dk_go 3 a_Mo_reckon_58 rfl
theorem a_Mo_reckon_64 : dk_at b_Mo_reckon 64 t_Mo_reckon_64 := dk_go 3 a_Mo_reckon_61 rfl
theorem a_Mo_reckon_65 : dk_at b_Mo_reckon 65 t_Mo_reckon_65 := dk_go 1 a_Mo_reckon_64 rfl
theorem a_Mo_reckon_68 : dk_at b_Mo_reckon 68 t_Mo_reckon_68 := dk_go 3 a_Mo_reckon_65 rfl
theorem a_Mo_reckon_69 : dk_at b_Mo_reckon 69 t_Mo_reckon_69 := dk_go 1 a_Mo_reckon_68 rfl
theorem a_Mo_reckon_72 : dk_at b_Mo_reckon 72 t_Mo_reckon_72 := dk_go 3 a_Mo_reckon_69 rfl
theorem a_Mo_reckon_73 : dk_at b_Mo_reckon 73 t_Mo_reckon_73 := dk_go 1 a_Mo_reckon_72 rfl
theorem a_Mo_reckon_74 : dk_at b_Mo_reckon 74 t_Mo_reckon_74 := dk_go 1 a_Mo_reckon_73 rfl
theorem a_Mo_reckon_75 : dk_at b_Mo_reckon 75 t_Mo_reckon_75 := dk_go 1 a_Mo_reckon_74 rfl
theorem a_Mo_reckon_76 : dk_at b_Mo_reckon 76 t_Mo_reckon_76 := dk_go 1 a_Mo_reckon_75 rfl
theorem a_Mo_reckon_77 : dk_at b_Mo_reckon 77 t_Mo_reckon_77 := dk_go 1 a_Mo_reckon_76 rfl
theorem a_Mo_reckon_78 : dk_at b_Mo_reckon 78 t_Mo_reckon_78 := dk_go 1 a_Mo_reckon_77 rfl
theorem a_Mo_reckon_81 : dk_at b_Mo_reckon 81 t_Mo_reckon_81 := dk_go 3 a_Mo_reckon_78 rfl
theorem a_Mo_reckon_82 : dk_at b_Mo_reckon 82 t_Mo_reckon_82 := dk_go 1 a_Mo_reckon_81 rfl
theorem a_Mo_reckon_83 : dk_at b_Mo_reckon 83 t_Mo_reckon_83 := dk_go 1 a_Mo_reckon_82 rfl
theorem a_Mo_reckon_86 : dk_at b_Mo_reckon 86 t_Mo_reckon_86 := dk_go 3 a_Mo_reckon_83 rfl
theorem a_Mo_reckon_89 : dk_at b_Mo_reckon 89 t_Mo_reckon_89 := dk_go 3 a_Mo_reckon_86 rfl
theorem a_Mo_reckon_90 : dk_at b_Mo_reckon 90 t_Mo_reckon_90 := dk_go 1 a_Mo_reckon_89 rfl
theorem a_Mo_reckon_91 : dk_at b_Mo_reckon 91 t_Mo_reckon_91 := dk_go 1 a_Mo_reckon_90 rfl
theorem a_Mo_reckon_93 : dk_at b_Mo_reckon 93 t_Mo_reckon_93 := dk_go 2 a_Mo_reckon_91 rfl
theorem a_Mo_reckon_96 : dk_at b_Mo_reckon 96 t_Mo_reckon_96 := dk_go 3 a_Mo_reckon_93 rfl
theorem a_Mo_reckon_97 : dk_at b_Mo_reckon 97 t_Mo_reckon_97 := dk_go 1 a_Mo_reckon_96 rfl
theorem a_Mo_reckon_98 : dk_at b_Mo_reckon 98 t_Mo_reckon_98 := dk_go 1 a_Mo_reckon_97 rfl
theorem a_Mo_reckon_99 : dk_at b_Mo_reckon 99 t_Mo_reckon_99 := dk_go 1 a_Mo_reckon_98 rfl
theorem a_Mo_reckon_100 : dk_at b_Mo_reckon 100 t_Mo_reckon_100 := dk_go 1 a_Mo_reckon_99 rfl
theorem a_Mo_reckon_101 : dk_at b_Mo_reckon 101 t_Mo_reckon_101 := dk_go 1 a_Mo_reckon_100 rfl
theorem a_Mo_reckon_104 : dk_at b_Mo_reckon 104 t_Mo_reckon_104 := dk_go 3 a_Mo_reckon_101 rfl
theorem a_Mo_reckon_105 : dk_at b_Mo_reckon 105 t_Mo_reckon_105 := dk_go 1 a_Mo_reckon_104 rfl
theorem a_Mo_reckon_106 : dk_at b_Mo_reckon 106 t_Mo_reckon_106 := dk_go 1 a_Mo_reckon_105 rfl
theorem a_Mo_reckon_109 : dk_at b_Mo_reckon 109 t_Mo_reckon_109 := dk_go 3 a_Mo_reckon_106 rfl
theorem a_Mo_reckon_112 : dk_at b_Mo_reckon 112 t_Mo_reckon_112 := dk_go 3 a_Mo_reckon_109 rfl
theorem a_Mo_reckon_114 : dk_at b_Mo_reckon 114 t_Mo_reckon_114 := dk_go 2 a_Mo_reckon_112 rfl
theorem a_Mo_reckon_115 : dk_at b_Mo_reckon 115 t_Mo_reckon_115 := dk_go 1 a_Mo_reckon_114 rfl
theorem a_Mo_reckon_118 : dk_at b_Mo_reckon 118 t_Mo_reckon_118 := dk_go 3 a_Mo_reckon_115 rfl
theorem a_Mo_reckon_119 : dk_at b_Mo_reckon 119 t_Mo_reckon_119 := dk_go 1 a_Mo_reckon_118 rfl
theorem a_Mo_reckon_122 : dk_at b_Mo_reckon 122 t_Mo_reckon_122 := dk_go 3 a_Mo_reckon_119 rfl
theorem a_Mo_reckon_123 : dk_at b_Mo_reckon 123 t_Mo_reckon_123 := dk_go 1 a_Mo_reckon_122 rfl
theorem a_Mo_reckon_124 : dk_at b_Mo_reckon 124 t_Mo_reckon_124 := dk_go 1 a_Mo_reckon_123 rfl
theorem a_Mo_reckon_125 : dk_at b_Mo_reckon 125 t_Mo_reckon_125 := dk_go 1 a_Mo_reckon_124 rfl
theorem a_Mo_reckon_168 : dk_at b_Mo_reckon 168 t_Mo_reckon_168 := dk_go 43 a_Mo_reckon_125 rfl
theorem a_Mo_reckon_169 : dk_at b_Mo_reckon 169 t_Mo_reckon_169 := dk_go 1 a_Mo_reckon_168 rfl
theorem a_Mo_reckon_171 : dk_at b_Mo_reckon 171 t_Mo_reckon_171 := dk_go 2 a_Mo_reckon_169 rfl
theorem a_Mo_reckon_172 : dk_at b_Mo_reckon 172 t_Mo_reckon_172 := dk_go 1 a_Mo_reckon_171 rfl
theorem a_Mo_reckon_173 : dk_at b_Mo_reckon 173 t_Mo_reckon_173 := dk_go 1 a_Mo_reckon_172 rfl
theorem a_Mo_reckon_174 : dk_at b_Mo_reckon 174 t_Mo_reckon_174 := dk_go 1 a_Mo_reckon_173 rfl
theorem a_Mo_reckon_176 : dk_at b_Mo_reckon 176 t_Mo_reckon_176 := dk_go 2 a_Mo_reckon_174 rfl
theorem a_Mo_reckon_177 : dk_at b_Mo_reckon 177 t_Mo_reckon_177 := dk_go 1 a_Mo_reckon_176 rfl
theorem a_Mo_reckon_178 : dk_at b_Mo_reckon 178 t_Mo_reckon_178 := dk_go 1 a_Mo_reckon_177 rfl
theorem a_Mo_reckon_179 : dk_at b_Mo_reckon 179 t_Mo_reckon_179 := dk_go 1 a_Mo_reckon_178 rfl
theorem a_Mo_reckon_181 : dk_at b_Mo_reckon 181 t_Mo_reckon_181 := dk_go 2 a_Mo_reckon_179 rfl
theorem a_Mo_reckon_182 : dk_at b_Mo_reckon 182 t_Mo_reckon_182 := dk_go 1 a_Mo_reckon_181 rfl
theorem a_Mo_reckon_185 : dk_at b_Mo_reckon 185 t_Mo_reckon_185 := dk_go 3 a_Mo_reckon_182 rfl
theorem a_Mo_reckon_186 : dk_at b_Mo_reckon 186 t_Mo_reckon_186 := dk_go 1 a_Mo_reckon_185 rfl
theorem a_Mo_reckon_187 : dk_at b_Mo_reckon 187 t_Mo_reckon_187 := dk_go 1 a_Mo_reckon_186 rfl
theorem a_Mo_reckon_189 : dk_at b_Mo_reckon 189 t_Mo_reckon_189 := dk_go 2 a_Mo_reckon_187 rfl
theorem a_Mo_reckon_190 : dk_at b_Mo_reckon 190 t_Mo_reckon_190 := dk_go 1 a_Mo_reckon_189 rfl
theorem a_Mo_reckon_191 : dk_at b_Mo_reckon 191 t_Mo_reckon_191 := dk_go 1 a_Mo_reckon_190 rfl
theorem a_Mo_reckon_194 : dk_at b_Mo_reckon 194 t_Mo_reckon_194 := dk_go 3 a_Mo_reckon_191 rfl
theorem a_Mo_reckon_195 : dk_at b_Mo_reckon 195 t_Mo_reckon_195 := dk_go 1 a_Mo_reckon_194 rfl
theorem a_Mo_reckon_196 : dk_at b_Mo_reckon 196 t_Mo_reckon_196 := dk_go 1 a_Mo_reckon_195 rfl
theorem a_Mo_reckon_199 : dk_at b_Mo_reckon 199 t_Mo_reckon_199 := dk_go 3 a_Mo_reckon_196 rfl
theorem a_Mo_reckon_200 : dk_at b_Mo_reckon 200 t_Mo_reckon_200 := dk_go 1 a_Mo_reckon_199 rfl
theorem a_Mo_reckon_201 : dk_at b_Mo_reckon 201 t_Mo_reckon_201 := dk_go 1 a_Mo_reckon_200 rfl
theorem a_Mo_reckon_202 : dk_at b_Mo_reckon 202 t_Mo_reckon_202 := dk_go 1 a_Mo_reckon_201 rfl
theorem a_Mo_reckon_205 : dk_at b_Mo_reckon 205 t_Mo_reckon_205 := dk_go 3 a_Mo_reckon_202 rfl
theorem a_Mo_reckon_206 : dk_at b_Mo_reckon 206 t_Mo_reckon_206 := dk_go 1 a_Mo_reckon_205 rfl
theorem a_Mo_reckon_208 : dk_at b_Mo_reckon 208 t_Mo_reckon_208 := dk_go 2 a_Mo_reckon_206 rfl
theorem a_Mo_reckon_209 : dk_at b_Mo_reckon 209 t_Mo_reckon_209 := dk_go 1 a_Mo_reckon_208 rfl
theorem a_Mo_reckon_210 : dk_at b_Mo_reckon 210 t_Mo_reckon_210 := dk_go 1 a_Mo_reckon_209 rfl
theorem a_Mo_reckon_211 : dk_at b_Mo_reckon 211 t_Mo_reckon_211 := dk_go 1 a_Mo_reckon_210 rfl
theorem a_Mo_reckon_213 : dk_at b_Mo_reckon 213 t_Mo_reckon_213 := dk_go 2 a_Mo_reckon_211 rfl
theorem a_Mo_reckon_214 : dk_at b_Mo_reckon 214 t_Mo_reckon_214 := dk_go 1 a_Mo_reckon_213 rfl
theorem a_Mo_reckon_217 : dk_at b_Mo_reckon 217 t_Mo_reckon_217 := dk_go 3 a_Mo_reckon_214 rfl
theorem a_Mo_reckon_220 : dk_at b_Mo_reckon 220 t_Mo_reckon_220 := dk_go 3 a_Mo_reckon_217 rfl
theorem a_Mo_reckon_223 : dk_at b_Mo_reckon 223 t_Mo_reckon_223 := dk_go 3 a_Mo_reckon_220 rfl
theorem a_Mo_reckon_224 : dk_at b_Mo_reckon 224 t_Mo_reckon_224 := dk_go 1 a_Mo_reckon_223 rfl
theorem a_Mo_reckon_225 : dk_at b_Mo_reckon 225 t_Mo_reckon_225 := dk_go 1 a_Mo_reckon_224 rfl
theorem a_Mo_reckon_226 : dk_at b_Mo_reckon 226 t_Mo_reckon_226 := dk_go 1 a_Mo_reckon_225 rfl
theorem a_Mo_reckon_228 : dk_at b_Mo_reckon 228 t_Mo_reckon_228 := dk_go 2 a_Mo_reckon_226 rfl
theorem a_Mo_reckon_229 : dk_at b_Mo_reckon 229 t_Mo_reckon_229 := dk_go 1 a_Mo_reckon_228 rfl
theorem a_Mo_reckon_232 : dk_at b_Mo_reckon 232 t_Mo_reckon_232 := dk_go 3 a_Mo_reckon_229 rfl
theorem a_Mo_reckon_235 : dk_at b_Mo_reckon 235 t_Mo_reckon_235 := dk_go 3 a_Mo_reckon_232 rfl
theorem a_Mo_reckon_238 : dk_at b_Mo_reckon 238 t_Mo_reckon_238 := dk_go 3 a_Mo_reckon_235 rfl
theorem a_Mo_reckon_239 : dk_at b_Mo_reckon 239 t_Mo_reckon_239 := dk_go 1 a_Mo_reckon_238 rfl
theorem a_Mo_reckon_240 : dk_at b_Mo_reckon 240 t_Mo_reckon_240 := dk_go 1 a_Mo_reckon_239 rfl
theorem a_Mo_reckon_241 : dk_at b_Mo_reckon 241 t_Mo_reckon_241 := dk_go 1 a_Mo_reckon_240 rfl
theorem a_Mo_reckon_243 : dk_at b_Mo_reckon 243 t_Mo_reckon_243 := dk_go 2 a_Mo_reckon_241 rfl
theorem a_Mo_reckon_244 : dk_at b_Mo_reckon 244 t_Mo_reckon_244 := dk_go 1 a_Mo_reckon_243 rfl
theorem a_Mo_reckon_247 : dk_at b_Mo_reckon 247 t_Mo_reckon_247 := dk_go 3 a_Mo_reckon_244 rfl
theorem a_Mo_reckon_250 : dk_at b_Mo_reckon 250 t_Mo_reckon_250 := dk_go 3 a_Mo_reckon_247 rfl
theorem a_Mo_reckon_253 : dk_at b_Mo_reckon 253 t_Mo_reckon_253 := dk_go 3 a_Mo_reckon_250 rfl
theorem a_Mo_reckon_254 : dk_at b_Mo_reckon 254 t_Mo_reckon_254 := dk_go 1 a_Mo_reckon_253 rfl
theorem d_Mo_reckon_0 : decode b_Mo_reckon 0 = .ok (.aload_n 0, 1) := dk_0 a_Mo_reckon_0 (dko_42 _)
theorem d_Mo_reckon_1 : decode b_Mo_reckon 1 = .ok (.getfield 199, 3) := dk_U2 a_Mo_reckon_1 (dko_180 _) rfl
theorem d_Mo_reckon_4 : decode b_Mo_reckon 4 = .ok (.iconst (-1), 1) := dk_0 a_Mo_reckon_4 (dko_2 _)
theorem d_Mo_reckon_5 : decode b_Mo_reckon 5 = .ok (.if_icmp .eq 5, 3) := dk_S2 a_Mo_reckon_5 (dko_159 _) (by decide +kernel)
theorem d_Mo_reckon_8 : decode b_Mo_reckon 8 = .ok (.lconst 0, 1) := dk_0 a_Mo_reckon_8 (dko_9 _)
theorem d_Mo_reckon_9 : decode b_Mo_reckon 9 = .ok (.lreturn, 1) := dk_0 a_Mo_reckon_9 (dko_173 _)
theorem d_Mo_reckon_10 : decode b_Mo_reckon 10 = .ok (.aload_n 0, 1) := dk_0 a_Mo_reckon_10 (dko_42 _)
theorem d_Mo_reckon_11 : decode b_Mo_reckon 11 = .ok (.getfield 16, 3) := dk_U2 a_Mo_reckon_11 (dko_180 _) rfl
theorem d_Mo_reckon_14 : decode b_Mo_reckon 14 = .ok (.getfield 484, 3) := dk_U2 a_Mo_reckon_14 (dko_180 _) rfl
theorem d_Mo_reckon_17 : decode b_Mo_reckon 17 = .ok (.aload_n 0, 1) := dk_0 a_Mo_reckon_17 (dko_42 _)
theorem d_Mo_reckon_18 : decode b_Mo_reckon 18 = .ok (.getfield 16, 3) := dk_U2 a_Mo_reckon_18 (dko_180 _) rfl
theorem d_Mo_reckon_21 : decode b_Mo_reckon 21 = .ok (.iload_n 1, 1) := dk_0 a_Mo_reckon_21 (dko_27 _)
theorem d_Mo_reckon_22 : decode b_Mo_reckon 22 = .ok (.invokevirtual 487, 3) := dk_U2 a_Mo_reckon_22 (dko_182 _) rfl
theorem d_Mo_reckon_25 : decode b_Mo_reckon 25 = .ok (.iaload, 1) := dk_0 a_Mo_reckon_25 (dko_46 _)
theorem d_Mo_reckon_26 : decode b_Mo_reckon 26 = .ok (.istore_n 2, 1) := dk_0 a_Mo_reckon_26 (dko_61 _)
theorem d_Mo_reckon_27 : decode b_Mo_reckon 27 = .ok (.iload_n 2, 1) := dk_0 a_Mo_reckon_27 (dko_28 _)
theorem d_Mo_reckon_28 : decode b_Mo_reckon 28 = .ok (.ifCond .ne 20, 3) := dk_S2 a_Mo_reckon_28 (dko_154 _) (by decide +kernel)
theorem d_Mo_reckon_31 : decode b_Mo_reckon 31 = .ok (.aload_n 0, 1) := dk_0 a_Mo_reckon_31 (dko_42 _)
theorem d_Mo_reckon_32 : decode b_Mo_reckon 32 = .ok (.getfield 16, 3) := dk_U2 a_Mo_reckon_32 (dko_180 _) rfl
theorem d_Mo_reckon_35 : decode b_Mo_reckon 35 = .ok (.getfield 499, 3) := dk_U2 a_Mo_reckon_35 (dko_180 _) rfl
theorem d_Mo_reckon_38 : decode b_Mo_reckon 38 = .ok (.aload_n 0, 1) := dk_0 a_Mo_reckon_38 (dko_42 _)
theorem d_Mo_reckon_39 : decode b_Mo_reckon 39 = .ok (.getfield 16, 3) := dk_U2 a_Mo_reckon_39 (dko_180 _) rfl
theorem d_Mo_reckon_42 : decode b_Mo_reckon 42 = .ok (.iload_n 1, 1) := dk_0 a_Mo_reckon_42 (dko_27 _)
theorem d_Mo_reckon_43 : decode b_Mo_reckon 43 = .ok (.invokevirtual 487, 3) := dk_U2 a_Mo_reckon_43 (dko_182 _) rfl
theorem d_Mo_reckon_46 : decode b_Mo_reckon 46 = .ok (.laload, 1) := dk_0 a_Mo_reckon_46 (dko_47 _)
theorem d_Mo_reckon_47 : decode b_Mo_reckon 47 = .ok (.lreturn, 1) := dk_0 a_Mo_reckon_47 (dko_173 _)
theorem d_Mo_reckon_48 : decode b_Mo_reckon 48 = .ok (.iload_n 2, 1) := dk_0 a_Mo_reckon_48 (dko_28 _)
theorem d_Mo_reckon_49 : decode b_Mo_reckon 49 = .ok (.iconst 1, 1) := dk_0 a_Mo_reckon_49 (dko_4 _)
theorem d_Mo_reckon_50 : decode b_Mo_reckon 50 = .ok (.if_icmp .ne 26, 3) := dk_S2 a_Mo_reckon_50 (dko_160 _) (by decide +kernel)
theorem d_Mo_reckon_53 : decode b_Mo_reckon 53 = .ok (.aload_n 0, 1) := dk_0 a_Mo_reckon_53 (dko_42 _)
theorem d_Mo_reckon_54 : decode b_Mo_reckon 54 = .ok (.getfield 159, 3) := dk_U2 a_Mo_reckon_54 (dko_180 _) rfl
theorem d_Mo_reckon_57 : decode b_Mo_reckon 57 = .ok (.aload_n 0, 1) := dk_0 a_Mo_reckon_57 (dko_42 _)
theorem d_Mo_reckon_58 : decode b_Mo_reckon 58 = .ok (.getfield 16, 3) := dk_U2 a_Mo_reckon_58 (dko_180 _) rfl
theorem d_Mo_reckon_61 : decode b_Mo_reckon 61 = .ok (.getfield 499, 3) := dk_U2 a_Mo_reckon_61 (dko_180 _) rfl
theorem d_Mo_reckon_64 : decode b_Mo_reckon 64 = .ok (.aload_n 0, 1) := dk_0 a_Mo_reckon_64 (dko_42 _)
theorem d_Mo_reckon_65 : decode b_Mo_reckon 65 = .ok (.getfield 16, 3) := dk_U2 a_Mo_reckon_65 (dko_180 _) rfl
theorem d_Mo_reckon_68 : decode b_Mo_reckon 68 = .ok (.iload_n 1, 1) := dk_0 a_Mo_reckon_68 (dko_27 _)
theorem d_Mo_reckon_69 : decode b_Mo_reckon 69 = .ok (.invokevirtual 487, 3) := dk_U2 a_Mo_reckon_69 (dko_182 _) rfl
theorem d_Mo_reckon_72 : decode b_Mo_reckon 72 = .ok (.laload, 1) := dk_0 a_Mo_reckon_72 (dko_47 _)
theorem d_Mo_reckon_73 : decode b_Mo_reckon 73 = .ok (.l2i, 1) := dk_0 a_Mo_reckon_73 (dko_136 _)
theorem d_Mo_reckon_74 : decode b_Mo_reckon 74 = .ok (.laload, 1) := dk_0 a_Mo_reckon_74 (dko_47 _)
theorem d_Mo_reckon_75 : decode b_Mo_reckon 75 = .ok (.lreturn, 1) := dk_0 a_Mo_reckon_75 (dko_173 _)
theorem d_Mo_reckon_76 : decode b_Mo_reckon 76 = .ok (.aload_n 0, 1) := dk_0 a_Mo_reckon_76 (dko_42 _)
theorem d_Mo_reckon_77 : decode b_Mo_reckon 77 = .ok (.aload_n 0, 1) := dk_0 a_Mo_reckon_77 (dko_42 _)
theorem d_Mo_reckon_78 : decode b_Mo_reckon 78 = .ok (.getfield 16, 3) := dk_U2 a_Mo_reckon_78 (dko_180 _) rfl
theorem d_Mo_reckon_81 : decode b_Mo_reckon 81 = .ok (.iload_n 1, 1) := dk_0 a_Mo_reckon_81 (dko_27 _)
theorem d_Mo_reckon_82 : decode b_Mo_reckon 82 = .ok (.iconst 0, 1) := dk_0 a_Mo_reckon_82 (dko_3 _)
theorem d_Mo_reckon_83 : decode b_Mo_reckon 83 = .ok (.invokevirtual 502, 3) := dk_U2 a_Mo_reckon_83 (dko_182 _) rfl
theorem d_Mo_reckon_86 : decode b_Mo_reckon 86 = .ok (.invokevirtual 523, 3) := dk_U2 a_Mo_reckon_86 (dko_182 _) rfl
theorem d_Mo_reckon_89 : decode b_Mo_reckon 89 = .ok (.lstore_n 3, 1) := dk_0 a_Mo_reckon_89 (dko_66 _)
theorem d_Mo_reckon_90 : decode b_Mo_reckon 90 = .ok (.iload_n 2, 1) := dk_0 a_Mo_reckon_90 (dko_28 _)
theorem d_Mo_reckon_91 : decode b_Mo_reckon 91 = .ok (.bipush 6, 2) := dk_S1 a_Mo_reckon_91 (dko_16 _) (by decide +kernel)
theorem d_Mo_reckon_93 : decode b_Mo_reckon 93 = .ok (.if_icmp .ne 6, 3) := dk_S2 a_Mo_reckon_93 (dko_160 _) (by decide +kernel)
theorem d_Mo_reckon_96 : decode b_Mo_reckon 96 = .ok (.lload_n 3, 1) := dk_0 a_Mo_reckon_96 (dko_33 _)
theorem d_Mo_reckon_97 : decode b_Mo_reckon 97 = .ok (.lneg, 1) := dk_0 a_Mo_reckon_97 (dko_117 _)
theorem d_Mo_reckon_98 : decode b_Mo_reckon 98 = .ok (.lreturn, 1) := dk_0 a_Mo_reckon_98 (dko_173 _)
theorem d_Mo_reckon_99 : decode b_Mo_reckon 99 = .ok (.aload_n 0, 1) := dk_0 a_Mo_reckon_99 (dko_42 _)
theorem d_Mo_reckon_100 : decode b_Mo_reckon 100 = .ok (.aload_n 0, 1) := dk_0 a_Mo_reckon_100 (dko_42 _)
theorem d_Mo_reckon_101 : decode b_Mo_reckon 101 = .ok (.getfield 16, 3) := dk_U2 a_Mo_reckon_101 (dko_180 _) rfl
theorem d_Mo_reckon_104 : decode b_Mo_reckon 104 = .ok (.iload_n 1, 1) := dk_0 a_Mo_reckon_104 (dko_27 _)
theorem d_Mo_reckon_105 : decode b_Mo_reckon 105 = .ok (.iconst 1, 1) := dk_0 a_Mo_reckon_105 (dko_4 _)
theorem d_Mo_reckon_106 : decode b_Mo_reckon 106 = .ok (.invokevirtual 502, 3) := dk_U2 a_Mo_reckon_106 (dko_182 _) rfl
theorem d_Mo_reckon_109 : decode b_Mo_reckon 109 = .ok (.invokevirtual 523, 3) := dk_U2 a_Mo_reckon_109 (dko_182 _) rfl
theorem d_Mo_reckon_112 : decode b_Mo_reckon 112 = .ok (.lstore 5, 2) := dk_U1 a_Mo_reckon_112 (dko_55 _) rfl
theorem d_Mo_reckon_114 : decode b_Mo_reckon 114 = .ok (.aload_n 0, 1) := dk_0 a_Mo_reckon_114 (dko_42 _)
theorem d_Mo_reckon_115 : decode b_Mo_reckon 115 = .ok (.getfield 199, 3) := dk_U2 a_Mo_reckon_115 (dko_180 _) rfl
theorem d_Mo_reckon_118 : decode b_Mo_reckon 118 = .ok (.iconst (-1), 1) := dk_0 a_Mo_reckon_118 (dko_2 _)
theorem d_Mo_reckon_119 : decode b_Mo_reckon 119 = .ok (.if_icmp .eq 5, 3) := dk_S2 a_Mo_reckon_119 (dko_159 _) (by decide +kernel)
theorem d_Mo_reckon_122 : decode b_Mo_reckon 122 = .ok (.lconst 0, 1) := dk_0 a_Mo_reckon_122 (dko_9 _)
theorem d_Mo_reckon_123 : decode b_Mo_reckon 123 = .ok (.lreturn, 1) := dk_0 a_Mo_reckon_123 (dko_173 _)
theorem d_Mo_reckon_124 : decode b_Mo_reckon 124 = .ok (.iload_n 2, 1) := dk_0 a_Mo_reckon_124 (dko_28 _)
theorem d_Mo_reckon_125 : decode b_Mo_reckon 125 = .ok (.tableswitch 115 2 8 #[43, 48, 53, 62, 115, 85, 100], 43) := by decide +kernel
theorem d_Mo_reckon_168 : decode b_Mo_reckon 168 = .ok (.lload_n 3, 1) := dk_0 a_Mo_reckon_168 (dko_33 _)
theorem d_Mo_reckon_169 : decode b_Mo_reckon 169 = .ok (.lload 5, 2) := dk_U1 a_Mo_reckon_169 (dko_22 _) rfl
theorem d_Mo_reckon_171 : decode b_Mo_reckon 171 = .ok (.ladd, 1) := dk_0 a_Mo_reckon_171 (dko_97 _)
theorem d_Mo_reckon_172 : decode b_Mo_reckon 172 = .ok (.lreturn, 1) := dk_0 a_Mo_reckon_172 (dko_173 _)
theorem d_Mo_reckon_173 : decode b_Mo_reckon 173 = .ok (.lload_n 3, 1) := dk_0 a_Mo_reckon_173 (dko_33 _)
theorem d_Mo_reckon_174 : decode b_Mo_reckon 174 = .ok (.lload 5, 2) := dk_U1 a_Mo_reckon_174 (dko_22 _) rfl
theorem d_Mo_reckon_176 : decode b_Mo_reckon 176 = .ok (.lsub, 1) := dk_0 a_Mo_reckon_176 (dko_101 _)
theorem d_Mo_reckon_177 : decode b_Mo_reckon 177 = .ok (.lreturn, 1) := dk_0 a_Mo_reckon_177 (dko_173 _)
theorem d_Mo_reckon_178 : decode b_Mo_reckon 178 = .ok (.lload_n 3, 1) := dk_0 a_Mo_reckon_178 (dko_33 _)
theorem d_Mo_reckon_179 : decode b_Mo_reckon 179 = .ok (.lload 5, 2) := dk_U1 a_Mo_reckon_179 (dko_22 _) rfl
theorem d_Mo_reckon_181 : decode b_Mo_reckon 181 = .ok (.lmul, 1) := dk_0 a_Mo_reckon_181 (dko_105 _)
theorem d_Mo_reckon_182 : decode b_Mo_reckon 182 = .ok (.ldc2_w 454, 3) := dk_U2 a_Mo_reckon_182 (dko_20 _) rfl
theorem d_Mo_reckon_185 : decode b_Mo_reckon 185 = .ok (.ldiv, 1) := dk_0 a_Mo_reckon_185 (dko_109 _)
theorem d_Mo_reckon_186 : decode b_Mo_reckon 186 = .ok (.lreturn, 1) := dk_0 a_Mo_reckon_186 (dko_173 _)
theorem d_Mo_reckon_187 : decode b_Mo_reckon 187 = .ok (.lload 5, 2) := dk_U1 a_Mo_reckon_187 (dko_22 _) rfl
theorem d_Mo_reckon_189 : decode b_Mo_reckon 189 = .ok (.lconst 0, 1) := dk_0 a_Mo_reckon_189 (dko_9 _)
theorem d_Mo_reckon_190 : decode b_Mo_reckon 190 = .ok (.lcmp, 1) := dk_0 a_Mo_reckon_190 (dko_148 _)
theorem d_Mo_reckon_191 : decode b_Mo_reckon 191 = .ok (.ifCond .ne 10, 3) := dk_S2 a_Mo_reckon_191 (dko_154 _) (by decide +kernel)
theorem d_Mo_reckon_194 : decode b_Mo_reckon 194 = .ok (.aload_n 0, 1) := dk_0 a_Mo_reckon_194 (dko_42 _)
theorem d_Mo_reckon_195 : decode b_Mo_reckon 195 = .ok (.iload_n 1, 1) := dk_0 a_Mo_reckon_195 (dko_27 _)
theorem d_Mo_reckon_196 : decode b_Mo_reckon 196 = .ok (.putfield 199, 3) := dk_U2 a_Mo_reckon_196 (dko_181 _) rfl
theorem d_Mo_reckon_199 : decode b_Mo_reckon 199 = .ok (.lconst 0, 1) := dk_0 a_Mo_reckon_199 (dko_9 _)
theorem d_Mo_reckon_200 : decode b_Mo_reckon 200 = .ok (.lreturn, 1) := dk_0 a_Mo_reckon_200 (dko_173 _)
theorem d_Mo_reckon_201 : decode b_Mo_reckon 201 = .ok (.lload_n 3, 1) := dk_0 a_Mo_reckon_201 (dko_33 _)
theorem d_Mo_reckon_202 : decode b_Mo_reckon 202 = .ok (.ldc2_w 454, 3) := dk_U2 a_Mo_reckon_202 (dko_20 _) rfl
theorem d_Mo_reckon_205 : decode b_Mo_reckon 205 = .ok (.lmul, 1) := dk_0 a_Mo_reckon_205 (dko_105 _)
theorem d_Mo_reckon_206 : decode b_Mo_reckon 206 = .ok (.lload 5, 2) := dk_U1 a_Mo_reckon_206 (dko_22 _) rfl
theorem d_Mo_reckon_208 : decode b_Mo_reckon 208 = .ok (.ldiv, 1) := dk_0 a_Mo_reckon_208 (dko_109 _)
theorem d_Mo_reckon_209 : decode b_Mo_reckon 209 = .ok (.lreturn, 1) := dk_0 a_Mo_reckon_209 (dko_173 _)
theorem d_Mo_reckon_210 : decode b_Mo_reckon 210 = .ok (.lload_n 3, 1) := dk_0 a_Mo_reckon_210 (dko_33 _)
theorem d_Mo_reckon_211 : decode b_Mo_reckon 211 = .ok (.lload 5, 2) := dk_U1 a_Mo_reckon_211 (dko_22 _) rfl
theorem d_Mo_reckon_213 : decode b_Mo_reckon 213 = .ok (.lcmp, 1) := dk_0 a_Mo_reckon_213 (dko_148 _)
theorem d_Mo_reckon_214 : decode b_Mo_reckon 214 = .ok (.ifCond .ge 9, 3) := dk_S2 a_Mo_reckon_214 (dko_156 _) (by decide +kernel)
theorem d_Mo_reckon_217 : decode b_Mo_reckon 217 = .ok (.ldc2_w 454, 3) := dk_U2 a_Mo_reckon_217 (dko_20 _) rfl
theorem d_Mo_reckon_220 : decode b_Mo_reckon 220 = .ok (.goto 4, 3) := dk_S2 a_Mo_reckon_220 (dko_167 _) (by decide +kernel)
theorem d_Mo_reckon_223 : decode b_Mo_reckon 223 = .ok (.lconst 0, 1) := dk_0 a_Mo_reckon_223 (dko_9 _)
theorem d_Mo_reckon_224 : decode b_Mo_reckon 224 = .ok (.lreturn, 1) := dk_0 a_Mo_reckon_224 (dko_173 _)
theorem d_Mo_reckon_225 : decode b_Mo_reckon 225 = .ok (.lload_n 3, 1) := dk_0 a_Mo_reckon_225 (dko_33 _)
theorem d_Mo_reckon_226 : decode b_Mo_reckon 226 = .ok (.lload 5, 2) := dk_U1 a_Mo_reckon_226 (dko_22 _) rfl
theorem d_Mo_reckon_228 : decode b_Mo_reckon 228 = .ok (.lcmp, 1) := dk_0 a_Mo_reckon_228 (dko_148 _)
theorem d_Mo_reckon_229 : decode b_Mo_reckon 229 = .ok (.ifCond .ne 9, 3) := dk_S2 a_Mo_reckon_229 (dko_154 _) (by decide +kernel)
theorem d_Mo_reckon_232 : decode b_Mo_reckon 232 = .ok (.ldc2_w 454, 3) := dk_U2 a_Mo_reckon_232 (dko_20 _) rfl
theorem d_Mo_reckon_235 : decode b_Mo_reckon 235 = .ok (.goto 4, 3) := dk_S2 a_Mo_reckon_235 (dko_167 _) (by decide +kernel)
theorem d_Mo_reckon_238 : decode b_Mo_reckon 238 = .ok (.lconst 0, 1) := dk_0 a_Mo_reckon_238 (dko_9 _)
theorem d_Mo_reckon_239 : decode b_Mo_reckon 239 = .ok (.lreturn, 1) := dk_0 a_Mo_reckon_239 (dko_173 _)
theorem d_Mo_reckon_240 : decode b_Mo_reckon 240 = .ok (.lload_n 3, 1) := dk_0 a_Mo_reckon_240 (dko_33 _)
theorem d_Mo_reckon_241 : decode b_Mo_reckon 241 = .ok (.lload 5, 2) := dk_U1 a_Mo_reckon_241 (dko_22 _) rfl
theorem d_Mo_reckon_243 : decode b_Mo_reckon 243 = .ok (.lcmp, 1) := dk_0 a_Mo_reckon_243 (dko_148 _)
theorem d_Mo_reckon_244 : decode b_Mo_reckon 244 = .ok (.ifCond .le 9, 3) := dk_S2 a_Mo_reckon_244 (dko_158 _) (by decide +kernel)
theorem d_Mo_reckon_247 : decode b_Mo_reckon 247 = .ok (.ldc2_w 454, 3) := dk_U2 a_Mo_reckon_247 (dko_20 _) rfl
theorem d_Mo_reckon_250 : decode b_Mo_reckon 250 = .ok (.goto 4, 3) := dk_S2 a_Mo_reckon_250 (dko_167 _) (by decide +kernel)
theorem d_Mo_reckon_253 : decode b_Mo_reckon 253 = .ok (.lconst 0, 1) := dk_0 a_Mo_reckon_253 (dko_9 _)
theorem d_Mo_reckon_254 : decode b_Mo_reckon 254 = .ok (.lreturn, 1) := dk_0 a_Mo_reckon_254 (dko_173 _)
set_option maxHeartbeats 4000000 in
set_option maxRecDepth 100000 in
theorem ok_Mo_reckon (pc : Nat) : OpS mt mi_Mo_reckon pc (cs_Mo_reckon pc) := (os_n (os_n (os_n (os_n (os_n (os_n (os_l (so_aload_n d_Mo_reckon_0 rfl)) (os_n (os_l (so_get (C := R_Mo) (T := F_Mo) (N := 87) (j := 76) in_Mo rfl (by decide) mw_1870 d_Mo_reckon_1)) (os_l (so_iconst d_Mo_reckon_4 (by decide))))) (os_n (os_n (os_l (so_iceq d_Mo_reckon_5 (by decide))) (os_l (so_lconst d_Mo_reckon_8 (by decide)))) (os_n (os_l (so_lreturn rfl d_Mo_reckon_9)) (os_l (so_aload_n d_Mo_reckon_10 rfl))))) (os_n (os_n (os_n (os_l (so_get (C := R_Mo) (T := F_Mo) (N := 87) (j := 2) in_Mo rfl (by decide) mw_1796 d_Mo_reckon_11)) (os_l (so_getN (C := R_Tx) (T := F_Tx) (N := 39) (j := 14) in_Tx rfl (by decide) nw_1595 d_Mo_reckon_14))) (os_n (os_l (so_aload_n d_Mo_reckon_17 rfl)) (os_l (so_get (C := R_Mo) (T := F_Mo) (N := 87) (j := 2) in_Mo rfl (by decide) mw_1796 d_Mo_reckon_18)))) (os_n (os_n (os_l (so_iload_n d_Mo_reckon_21 rfl)) (os_l (so_callVN (iv := mi_Tx_node1) rfl rfl rfl nw_2578 mw_2580 sl_175 mw_19 mw_2581 ⟨by decide +kernel, by decide +kernel, by decide +kernel⟩ (by decide) d_Mo_reckon_22))) (os_n (os_l (so_iaload d_Mo_reckon_25)) (os_l (so_istore_n d_Mo_reckon_26 rfl (by decide))))))) (os_n (os_n (os_n (os_n (os_l (so_iload_n d_Mo_reckon_27 rfl)) (os_l (so_ifne d_Mo_reckon_28 (by decide)))) (os_n (os_l (so_aload_n d_Mo_reckon_31 rfl)) (os_l (so_get (C := R_Mo) (T := F_Mo) (N := 87) (j := 2) in_Mo rfl (by decide) mw_1796 d_Mo_reckon_32)))) (os_n (os_n (os_l (so_getN (C := R_Tx) (T := F_Tx) (N := 39) (j := 15) in_Tx rfl (by decide) nw_1597 d_Mo_reckon_35)) (os_l (so_aload_n d_Mo_reckon_38 rfl))) (os_n (os_l (so_get (C := R_Mo) (T := F_Mo) (N := 87) (j := 2) in_Mo rfl (by decide) mw_1796 d_Mo_reckon_39)) (os_l (so_iload_n d_Mo_reckon_42 rfl))))) (os_n (os_n (os_n (os_l (so_callVN (iv := mi_Tx_node1) rfl rfl rfl nw_2578 mw_2580 sl_175 mw_19 mw_2581 ⟨by decide +kernel, by decide +kernel, by decide +kernel⟩ (by decide) d_Mo_reckon_43)) (os_l (so_laload d_Mo_reckon_46))) (os_n (os_l (so_lreturn rfl d_Mo_reckon_47)) (os_l (so_iload_n d_Mo_reckon_48 rfl)))) (os_n (os_n (os_l (so_iconst d_Mo_reckon_49 (by decide))) (os_l (so_icne d_Mo_reckon_50 (by decide)))) (os_n (os_l (so_aload_n d_Mo_reckon_53 rfl)) (os_l (so_get (C := R_Mo) (T := F_Mo) (N := 87) (j := 58) in_Mo rfl (by decide) mw_1852 d_Mo_reckon_54))))))) (os_n (os_n (os_n (os_n (os_l (so_aload_n d_Mo_reckon_57 rfl)) (os_n (os_l (so_get (C := R_Mo) (T := F_Mo) (N := 87) (j := 2) in_Mo rfl (by decide) mw_1796 d_Mo_reckon_58)) (os_l (so_getN (C := R_Tx) (T := F_Tx) (N := 39) (j := 15) in_Tx rfl (by decide) nw_1597 d_Mo_reckon_61)))) (os_n (os_n (os_l (so_aload_n d_Mo_reckon_64 rfl)) (os_l (so_get (C := R_Mo) (T := F_Mo) (N := 87) (j := 2) in_Mo rfl (by decide) mw_1796 d_Mo_reckon_65))) (os_n (os_l (so_iload_n d_Mo_reckon_68 rfl)) (os_l (so_callVN (iv := mi_Tx_node1) rfl rfl rfl nw_2578 mw_2580 sl_175 mw_19 mw_2581 ⟨by decide +kernel, by decide +kernel, by decide +kernel⟩ (by decide) d_Mo_reckon_69))))) (os_n (os_n (os_n (os_l (so_laload d_Mo_reckon_72)) (os_l (so_l2i d_Mo_reckon_73))) (os_n (os_l (so_laload d_Mo_reckon_74)) (os_l (so_lreturn rfl d_Mo_reckon_75)))) (os_n (os_n (os_l (so_aload_n d_Mo_reckon_76 rfl)) (os_l (so_aload_n d_Mo_reckon_77 rfl))) (os_n (os_l (so_get (C := R_Mo) (T := F_Mo) (N := 87) (j := 2) in_Mo rfl (by decide) mw_1796 d_Mo_reckon_78)) (os_l (so_iload_n d_Mo_reckon_81 rfl)))))) (os_n (os_n (os_n (os_n (os_l (so_iconst d_Mo_reckon_82 (by decide))) (os_l (so_callVN (iv := mi_Tx_kid) rfl rfl rfl nw_2586 mw_2588 sl_177 mw_19 mw_2589 ⟨by decide +kernel, by decide +kernel, by decide +kernel⟩ (by decide) d_Mo_reckon_83))) (os_n (os_l (so_callV (iv := mi_Mo_reckon) rfl rfl rfl mw_2631 mw_2633 sl_185 mw_18 mw_2634 ⟨by decide +kernel, by decide +kernel, by decide +kernel⟩ (by decide) d_Mo_reckon_86)) (os_l (so_lstore_n d_Mo_reckon_89 rfl (by decide))))) (os_n (os_n (os_l (so_iload_n d_Mo_reckon_90 rfl)) (os_l (so_bipush d_Mo_reckon_91 (by decide)))) (os_n (os_l (so_icne d_Mo_reckon_93 (by decide))) (os_l (so_lload_n d_Mo_reckon_96 rfl))))) (os_n (os_n (os_n (os_l (so_lneg d_Mo_reckon_97)) (os_l (so_lreturn rfl d_Mo_reckon_98))) (os_n (os_l (so_aload_n d_Mo_reckon_99 rfl)) (os_l (so_aload_n d_Mo_reckon_100 rfl)))) (os_n (os_n (os_l (so_get (C := R_Mo) (T := F_Mo) (N := 87) (j := 2) in_Mo rfl (by decide) mw_1796 d_Mo_reckon_101)) (os_l (so_iload_n d_Mo_reckon_104 rfl))) (os_n (os_l (so_iconst d_Mo_reckon_105 (by decide))) (os_l (so_callVN (iv := mi_Tx_kid) rfl rfl rfl nw_2586 mw_2588 sl_177 mw_19 mw_2589 ⟨by decide +kernel, by decide +kernel, by decide +kernel⟩ (by decide) d_Mo_reckon_106)))))))) (os_n (os_n (os_n (os_n (os_n (os_l (so_callV (iv := mi_Mo_reckon) rfl rfl rfl mw_2631 mw_2633 sl_185 mw_18 mw_2634 ⟨by decide +kernel, by decide +kernel, by decide +kernel⟩ (by decide) d_Mo_reckon_109)) (os_n (os_l (so_lstore d_Mo_reckon_112 (by decide))) (os_l (so_aload_n d_Mo_reckon_114 rfl)))) (os_n (os_n (os_l (so_get (C := R_Mo) (T := F_Mo) (N := 87) (j := 76) in_Mo rfl (by decide) mw_1870 d_Mo_reckon_115)) (os_l (so_iconst d_Mo_reckon_118 (by decide)))) (os_n (os_l (so_iceq d_Mo_reckon_119 (by decide))) (os_l (so_lconst d_Mo_reckon_122 (by decide)))))) (os_n (os_n (os_n (os_l (so_lreturn rfl d_Mo_reckon_123)) (os_l (so_iload_n d_Mo_reckon_124 rfl))) (os_n (os_l (so_tab d_Mo_reckon_125 (by decide) (by decide) (by decide))) (os_l (so_lload_n d_Mo_reckon_168 rfl)))) (os_n (os_n (os_l (so_lload d_Mo_reckon_169)) (os_l (so_ladd d_Mo_reckon_171))) (os_n (os_l (so_lreturn rfl d_Mo_reckon_172)) (os_l (so_lload_n d_Mo_reckon_173 rfl)))))) (os_n (os_n (os_n (os_n (os_l (so_lload d_Mo_reckon_174)) (os_l (so_lsub d_Mo_reckon_176))) (os_n (os_l (so_lreturn rfl d_Mo_reckon_177)) (os_l (so_lload_n d_Mo_reckon_178 rfl)))) (os_n (os_n (os_l (so_lload d_Mo_reckon_179)) (os_l (so_lmul d_Mo_reckon_181))) (os_n (os_l (so_ldc2 mw_2611 d_Mo_reckon_182)) (os_l (so_ldiv d_Mo_reckon_185))))) (os_n (os_n (os_n (os_l (so_lreturn rfl d_Mo_reckon_186)) (os_l (so_lload d_Mo_reckon_187))) (os_n (os_l (so_lconst d_Mo_reckon_189 (by decide))) (os_l (so_lcmp d_Mo_reckon_190)))) (os_n (os_n (os_l (so_ifne d_Mo_reckon_191 (by decide))) (os_l (so_aload_n d_Mo_reckon_194 rfl))) (os_n (os_l (so_iload_n d_Mo_reckon_195 rfl)) (os_l (so_putI (C := R_Mo) (T := F_Mo) (N := 87) (j := 76) in_Mo t_Mo_ok n_Mo rfl (by decide) mw_1870 rfl (by decide +kernel) d_Mo_reckon_196))))))) (os_n (os_n (os_n (os_n (os_n (os_l (so_lconst d_Mo_reckon_199 (by decide))) (os_l (so_lreturn rfl d_Mo_reckon_200))) (os_n (os_l (so_lload_n d_Mo_reckon_201 rfl)) (os_l (so_ldc2 mw_2611 d_Mo_reckon_202)))) (os_n (os_n (os_l (so_lmul d_Mo_reckon_205)) (os_l (so_lload d_Mo_reckon_206))) (os_n (os_l (so_ldiv d_Mo_reckon_208)) (os_l (so_lreturn rfl d_Mo_reckon_209))))) (os_n (os_n (os_n (os_l (so_lload_n d_Mo_reckon_210 rfl)) (os_l (so_lload d_Mo_reckon_211))) (os_n (os_l (so_lcmp d_Mo_reckon_213)) (os_l (so_ifge d_Mo_reckon_214 (by decide))))) (os_n (os_n (os_l (so_ldc2 mw_2611 d_Mo_reckon_217)) (os_l (so_goto d_Mo_reckon_220 (by decide)))) (os_n (os_l (so_lconst d_Mo_reckon_223 (by decide))) (os_l (so_lreturn rfl d_Mo_reckon_224)))))) (os_n (os_n (os_n (os_n (os_l (so_lload_n d_Mo_reckon_225 rfl)) (os_l (so_lload d_Mo_reckon_226))) (os_n (os_l (so_lcmp d_Mo_reckon_228)) (os_l (so_ifne d_Mo_reckon_229 (by decide))))) (os_n (os_n (os_l (so_ldc2 mw_2611 d_Mo_reckon_232)) (os_l (so_goto d_Mo_reckon_235 (by decide)))) (os_n (os_l (so_lconst d_Mo_reckon_238 (by decide))) (os_l (so_lreturn rfl d_Mo_reckon_239))))) (os_n (os_n (os_n (os_l (so_lload_n d_Mo_reckon_240 rfl)) (os_l (so_lload d_Mo_reckon_241))) (os_n (os_l (so_lcmp d_Mo_reckon_243)) (os_l (so_ifle d_Mo_reckon_244 (by decide))))) (os_n (os_n (os_l (so_ldc2 mw_2611 d_Mo_reckon_247)) (os_l (so_goto d_Mo_reckon_250 (by decide)))) (os_n (os_l (so_lconst d_Mo_reckon_253 (by decide))) (os_l (so_lreturn rfl d_Mo_reckon_254)))))))))
abbrev t_Mo_isBad_25 : List UInt8 := 172 :: []
abbrev t_Mo_isBad_24 : List UInt8 := 4 :: t_Mo_isBad_25
abbrev t_Mo_isBad_21 : List UInt8 := 181 :: 0 :: 199 :: t_Mo_isBad_24
abbrev t_Mo_isBad_20 : List UInt8 := 2 :: t_Mo_isBad_21
abbrev t_Mo_isBad_19 : List UInt8 := 42 :: t_Mo_isBad_20
abbrev t_Mo_isBad_16 : List UInt8 := 182 :: 1 :: 183 :: t_Mo_isBad_19
abbrev t_Mo_isBad_15 : List UInt8 := 4 :: t_Mo_isBad_16
abbrev t_Mo_isBad_12 : List UInt8 := 180 :: 0 :: 199 :: t_Mo_isBad_15
abbrev t_Mo_isBad_11 : List UInt8 := 42 :: t_Mo_isBad_12
abbrev t_Mo_isBad_10 : List UInt8 := 42 :: t_Mo_isBad_11
abbrev t_Mo_isBad_9 : List UInt8 := 172 :: t_Mo_isBad_10
abbrev t_Mo_isBad_8 : List UInt8 := 3 :: t_Mo_isBad_9
abbrev t_Mo_isBad_5 : List UInt8 := 160 :: 0 :: 5 :: t_Mo_isBad_8
abbrev t_Mo_isBad_4 : List UInt8 := 2 :: t_Mo_isBad_5
abbrev t_Mo_isBad_1 : List UInt8 := 180 :: 0 :: 199 :: t_Mo_isBad_4
abbrev t_Mo_isBad_0 : List UInt8 := 42 :: t_Mo_isBad_1
theorem a_Mo_isBad_0 : dk_at b_Mo_isBad 0 t_Mo_isBad_0 := dk_start (by decide +kernel)
theorem a_Mo_isBad_1 : dk_at b_Mo_isBad 1 t_Mo_isBad_1 := dk_go 1 a_Mo_isBad_0 rfl
theorem a_Mo_isBad_4 : dk_at b_Mo_isBad 4 t_Mo_isBad_4 := dk_go 3 a_Mo_isBad_1 rfl
theorem a_Mo_isBad_5 : dk_at b_Mo_isBad 5 t_Mo_isBad_5 := dk_go 1 a_Mo_isBad_4 rfl
theorem a_Mo_isBad_8 : dk_at b_Mo_isBad 8 t_Mo_isBad_8 := dk_go 3 a_Mo_isBad_5 rfl
theorem a_Mo_isBad_9 : dk_at b_Mo_isBad 9 t_Mo_isBad_9 := dk_go 1 a_Mo_isBad_8 rfl
theorem a_Mo_isBad_10 : dk_at b_Mo_isBad 10 t_Mo_isBad_10 := dk_go 1 a_Mo_isBad_9 rfl
theorem a_Mo_isBad_11 : dk_at b_Mo_isBad 11 t_Mo_isBad_11 := dk_go 1 a_Mo_isBad_10 rfl
theorem a_Mo_isBad_12 : dk_at b_Mo_isBad 12 t_Mo_isBad_12 := dk_go 1 a_Mo_isBad_11 rfl
theorem a_Mo_isBad_15 : dk_at b_Mo_isBad 15 t_Mo_isBad_15 := dk_go 3 a_Mo_isBad_12 rfl
theorem a_Mo_isBad_16 : dk_at b_Mo_isBad 16 t_Mo_isBad_16 := dk_go 1 a_Mo_isBad_15 rfl
theorem a_Mo_isBad_19 : dk_at b_Mo_isBad 19 t_Mo_isBad_19 := dk_go 3 a_Mo_isBad_16 rfl
theorem a_Mo_isBad_20 : dk_at b_Mo_isBad 20 t_Mo_isBad_20 := dk_go 1 a_Mo_isBad_19 rfl
theorem a_Mo_isBad_21 : dk_at b_Mo_isBad 21 t_Mo_isBad_21 := dk_go 1 a_Mo_isBad_20 rfl
theorem a_Mo_isBad_24 : dk_at b_Mo_isBad 24 t_Mo_isBad_24 := dk_go 3 a_Mo_isBad_21 rfl
theorem a_Mo_isBad_25 : dk_at b_Mo_isBad 25 t_Mo_isBad_25 := dk_go 1 a_Mo_isBad_24 rfl
theorem d_Mo_isBad_0 : decode b_Mo_isBad 0 = .ok (.aload_n 0, 1) := dk_0 a_Mo_isBad_0 (dko_42 _)
theorem d_Mo_isBad_1 : decode b_Mo_isBad 1 = .ok (.getfield 199, 3) := dk_U2 a_Mo_isBad_1 (dko_180 _) rfl
theorem d_Mo_isBad_4 : decode b_Mo_isBad 4 = .ok (.iconst (-1), 1) := dk_0 a_Mo_isBad_4 (dko_2 _)
theorem d_Mo_isBad_5 : decode b_Mo_isBad 5 = .ok (.if_icmp .ne 5, 3) := dk_S2 a_Mo_isBad_5 (dko_160 _) (by decide +kernel)
theorem d_Mo_isBad_8 : decode b_Mo_isBad 8 = .ok (.iconst 0, 1) := dk_0 a_Mo_isBad_8 (dko_3 _)
theorem d_Mo_isBad_9 : decode b_Mo_isBad 9 = .ok (.ireturn, 1) := dk_0 a_Mo_isBad_9 (dko_172 _)
theorem d_Mo_isBad_10 : decode b_Mo_isBad 10 = .ok (.aload_n 0, 1) := dk_0 a_Mo_isBad_10 (dko_42 _)
theorem d_Mo_isBad_11 : decode b_Mo_isBad 11 = .ok (.aload_n 0, 1) := dk_0 a_Mo_isBad_11 (dko_42 _)
theorem d_Mo_isBad_12 : decode b_Mo_isBad 12 = .ok (.getfield 199, 3) := dk_U2 a_Mo_isBad_12 (dko_180 _) rfl
theorem d_Mo_isBad_15 : decode b_Mo_isBad 15 = .ok (.iconst 1, 1) := dk_0 a_Mo_isBad_15 (dko_4 _)
theorem d_Mo_isBad_16 : decode b_Mo_isBad 16 = .ok (.invokevirtual 439, 3) := dk_U2 a_Mo_isBad_16 (dko_182 _) rfl
theorem d_Mo_isBad_19 : decode b_Mo_isBad 19 = .ok (.aload_n 0, 1) := dk_0 a_Mo_isBad_19 (dko_42 _)
theorem d_Mo_isBad_20 : decode b_Mo_isBad 20 = .ok (.iconst (-1), 1) := dk_0 a_Mo_isBad_20 (dko_2 _)
theorem d_Mo_isBad_21 : decode b_Mo_isBad 21 = .ok (.putfield 199, 3) := dk_U2 a_Mo_isBad_21 (dko_181 _) rfl
theorem d_Mo_isBad_24 : decode b_Mo_isBad 24 = .ok (.iconst 1, 1) := dk_0 a_Mo_isBad_24 (dko_4 _)
theorem d_Mo_isBad_25 : decode b_Mo_isBad 25 = .ok (.ireturn, 1) := dk_0 a_Mo_isBad_25 (dko_172 _)
set_option maxHeartbeats 4000000 in
set_option maxRecDepth 100000 in
theorem ok_Mo_isBad (pc : Nat) : OpS mt mi_Mo_isBad pc (cs_Mo_isBad pc) := (os_n (os_n (os_n (os_n (os_l (so_aload_n d_Mo_isBad_0 rfl)) (os_l (so_get (C := R_Mo) (T := F_Mo) (N := 87) (j := 76) in_Mo rfl (by decide) mw_1870 d_Mo_isBad_1))) (os_n (os_l (so_iconst d_Mo_isBad_4 (by decide))) (os_l (so_icne d_Mo_isBad_5 (by decide))))) (os_n (os_n (os_l (so_iconst d_Mo_isBad_8 (by decide))) (os_l (so_zreturn rfl d_Mo_isBad_9))) (os_n (os_l (so_aload_n d_Mo_isBad_10 rfl)) (os_l (so_aload_n d_Mo_isBad_11 rfl))))) (os_n (os_n (os_n (os_l (so_get (C := R_Mo) (T := F_Mo) (N := 87) (j := 76) in_Mo rfl (by decide) mw_1870 d_Mo_isBad_12)) (os_l (so_iconst d_Mo_isBad_15 (by decide)))) (os_n (os_l (so_callV (iv := mi_Mo_raise) rfl rfl rfl mw_2521 mw_2523 sl_172 mw_18 mw_2524 ⟨by decide +kernel, by decide +kernel, by decide +kernel⟩ (by decide) d_Mo_isBad_16)) (os_l (so_aload_n d_Mo_isBad_19 rfl)))) (os_n (os_n (os_l (so_iconst d_Mo_isBad_20 (by decide))) (os_l (so_putI (C := R_Mo) (T := F_Mo) (N := 87) (j := 76) in_Mo t_Mo_ok n_Mo rfl (by decide) mw_1870 rfl (by decide +kernel) d_Mo_isBad_21))) (os_n (os_l (so_iconst d_Mo_isBad_24 (by decide))) (os_l (so_zreturn rfl d_Mo_isBad_25))))))
abbrev t_Mo_begin_573 : List UInt8 := 172 :: []
abbrev t_Mo_begin_572 : List UInt8 := 4 :: t_Mo_begin_573
abbrev t_Mo_begin_569 : List UInt8 := 167 :: 255 :: 225 :: t_Mo_begin_572
abbrev t_Mo_begin_567 : List UInt8 := 54 :: 11 :: t_Mo_begin_569
abbrev t_Mo_begin_566 : List UInt8 := 46 :: t_Mo_begin_567
abbrev t_Mo_begin_564 : List UInt8 := 21 :: 11 :: t_Mo_begin_566
abbrev t_Mo_begin_561 : List UInt8 := 180 :: 0 :: 172 :: t_Mo_begin_564
abbrev t_Mo_begin_560 : List UInt8 := 42 :: t_Mo_begin_561
abbrev t_Mo_begin_559 : List UInt8 := 84 :: t_Mo_begin_560
abbrev t_Mo_begin_558 : List UInt8 := 3 :: t_Mo_begin_559
abbrev t_Mo_begin_556 : List UInt8 := 21 :: 11 :: t_Mo_begin_558
abbrev t_Mo_begin_553 : List UInt8 := 180 :: 0 :: 181 :: t_Mo_begin_556
abbrev t_Mo_begin_552 : List UInt8 := 42 :: t_Mo_begin_553
abbrev t_Mo_begin_551 : List UInt8 := 84 :: t_Mo_begin_552
abbrev t_Mo_begin_550 : List UInt8 := 3 :: t_Mo_begin_551
abbrev t_Mo_begin_548 : List UInt8 := 21 :: 11 :: t_Mo_begin_550
abbrev t_Mo_begin_545 : List UInt8 := 180 :: 0 :: 175 :: t_Mo_begin_548
abbrev t_Mo_begin_544 : List UInt8 := 42 :: t_Mo_begin_545
abbrev t_Mo_begin_541 : List UInt8 := 159 :: 0 :: 31 :: t_Mo_begin_544
abbrev t_Mo_begin_540 : List UInt8 := 2 :: t_Mo_begin_541
abbrev t_Mo_begin_538 : List UInt8 := 21 :: 11 :: t_Mo_begin_540
abbrev t_Mo_begin_536 : List UInt8 := 54 :: 11 :: t_Mo_begin_538
abbrev t_Mo_begin_535 : List UInt8 := 46 :: t_Mo_begin_536
abbrev t_Mo_begin_534 : List UInt8 := 27 :: t_Mo_begin_535
abbrev t_Mo_begin_531 : List UInt8 := 180 :: 0 :: 169 :: t_Mo_begin_534
abbrev t_Mo_begin_530 : List UInt8 := 42 :: t_Mo_begin_531
abbrev t_Mo_begin_527 : List UInt8 := 182 :: 1 :: 183 :: t_Mo_begin_530
abbrev t_Mo_begin_526 : List UInt8 := 96 :: t_Mo_begin_527
abbrev t_Mo_begin_524 : List UInt8 := 21 :: 11 :: t_Mo_begin_526
abbrev t_Mo_begin_522 : List UInt8 := 16 :: 10 :: t_Mo_begin_524
abbrev t_Mo_begin_521 : List UInt8 := 28 :: t_Mo_begin_522
abbrev t_Mo_begin_520 : List UInt8 := 42 :: t_Mo_begin_521
abbrev t_Mo_begin_517 : List UInt8 := 158 :: 0 :: 13 :: t_Mo_begin_520
abbrev t_Mo_begin_515 : List UInt8 := 21 :: 11 :: t_Mo_begin_517
abbrev t_Mo_begin_513 : List UInt8 := 54 :: 11 :: t_Mo_begin_515
abbrev t_Mo_begin_510 : List UInt8 := 182 :: 1 :: 180 :: t_Mo_begin_513
abbrev t_Mo_begin_508 : List UInt8 := 21 :: 10 :: t_Mo_begin_510
abbrev t_Mo_begin_507 : List UInt8 := 42 :: t_Mo_begin_508
abbrev t_Mo_begin_504 : List UInt8 := 160 :: 0 :: 26 :: t_Mo_begin_507
abbrev t_Mo_begin_502 : List UInt8 := 16 :: 22 :: t_Mo_begin_504
abbrev t_Mo_begin_501 : List UInt8 := 29 :: t_Mo_begin_502
abbrev t_Mo_begin_498 : List UInt8 := 167 :: 0 :: 32 :: t_Mo_begin_501
abbrev t_Mo_begin_495 : List UInt8 := 181 :: 2 :: 26 :: t_Mo_begin_498
abbrev t_Mo_begin_494 : List UInt8 := 4 :: t_Mo_begin_495
abbrev t_Mo_begin_493 : List UInt8 := 42 :: t_Mo_begin_494
abbrev t_Mo_begin_490 : List UInt8 := 160 :: 0 :: 11 :: t_Mo_begin_493
abbrev t_Mo_begin_488 : List UInt8 := 16 :: 21 :: t_Mo_begin_490
abbrev t_Mo_begin_487 : List UInt8 := 29 :: t_Mo_begin_488
abbrev t_Mo_begin_484 : List UInt8 := 167 :: 0 :: 46 :: t_Mo_begin_487
abbrev t_Mo_begin_481 : List UInt8 := 182 :: 1 :: 183 :: t_Mo_begin_484
abbrev t_Mo_begin_480 : List UInt8 := 6 :: t_Mo_begin_481
abbrev t_Mo_begin_479 : List UInt8 := 28 :: t_Mo_begin_480
abbrev t_Mo_begin_478 : List UInt8 := 42 :: t_Mo_begin_479
abbrev t_Mo_begin_475 : List UInt8 := 154 :: 0 :: 55 :: t_Mo_begin_478
abbrev t_Mo_begin_474 : List UInt8 := 148 :: t_Mo_begin_475
abbrev t_Mo_begin_473 : List UInt8 := 9 :: t_Mo_begin_474
abbrev t_Mo_begin_471 : List UInt8 := 22 :: 6 :: t_Mo_begin_473
abbrev t_Mo_begin_470 : List UInt8 := 79 :: t_Mo_begin_471
abbrev t_Mo_begin_469 : List UInt8 := 46 :: t_Mo_begin_470
abbrev t_Mo_begin_468 : List UInt8 := 46 :: t_Mo_begin_469
abbrev t_Mo_begin_467 : List UInt8 := 27 :: t_Mo_begin_468
abbrev t_Mo_begin_464 : List UInt8 := 180 :: 0 :: 169 :: t_Mo_begin_467
abbrev t_Mo_begin_463 : List UInt8 := 42 :: t_Mo_begin_464
abbrev t_Mo_begin_460 : List UInt8 := 180 :: 0 :: 172 :: t_Mo_begin_463
abbrev t_Mo_begin_459 : List UInt8 := 42 :: t_Mo_begin_460
abbrev t_Mo_begin_456 : List UInt8 := 167 :: 0 :: 14 :: t_Mo_begin_459
abbrev t_Mo_begin_455 : List UInt8 := 46 :: t_Mo_begin_456
abbrev t_Mo_begin_454 : List UInt8 := 27 :: t_Mo_begin_455
abbrev t_Mo_begin_451 : List UInt8 := 180 :: 0 :: 169 :: t_Mo_begin_454
abbrev t_Mo_begin_450 : List UInt8 := 42 :: t_Mo_begin_451
abbrev t_Mo_begin_447 : List UInt8 := 153 :: 0 :: 12 :: t_Mo_begin_450
abbrev t_Mo_begin_446 : List UInt8 := 148 :: t_Mo_begin_447
abbrev t_Mo_begin_445 : List UInt8 := 9 :: t_Mo_begin_446
abbrev t_Mo_begin_443 : List UInt8 := 22 :: 6 :: t_Mo_begin_445
abbrev t_Mo_begin_442 : List UInt8 := 27 :: t_Mo_begin_443
abbrev t_Mo_begin_439 : List UInt8 := 180 :: 0 :: 184 :: t_Mo_begin_442
abbrev t_Mo_begin_438 : List UInt8 := 42 :: t_Mo_begin_439
abbrev t_Mo_begin_435 : List UInt8 := 160 :: 0 :: 52 :: t_Mo_begin_438
abbrev t_Mo_begin_433 : List UInt8 := 16 :: 17 :: t_Mo_begin_435
abbrev t_Mo_begin_432 : List UInt8 := 29 :: t_Mo_begin_433
abbrev t_Mo_begin_429 : List UInt8 := 167 :: 0 :: 101 :: t_Mo_begin_432
abbrev t_Mo_begin_428 : List UInt8 := 79 :: t_Mo_begin_429
abbrev t_Mo_begin_427 : List UInt8 := 46 :: t_Mo_begin_428
abbrev t_Mo_begin_426 : List UInt8 := 46 :: t_Mo_begin_427
abbrev t_Mo_begin_425 : List UInt8 := 27 :: t_Mo_begin_426
abbrev t_Mo_begin_422 : List UInt8 := 180 :: 0 :: 169 :: t_Mo_begin_425
abbrev t_Mo_begin_421 : List UInt8 := 42 :: t_Mo_begin_422
abbrev t_Mo_begin_418 : List UInt8 := 180 :: 0 :: 172 :: t_Mo_begin_421
abbrev t_Mo_begin_417 : List UInt8 := 42 :: t_Mo_begin_418
abbrev t_Mo_begin_414 : List UInt8 := 167 :: 0 :: 14 :: t_Mo_begin_417
abbrev t_Mo_begin_413 : List UInt8 := 46 :: t_Mo_begin_414
abbrev t_Mo_begin_412 : List UInt8 := 27 :: t_Mo_begin_413
abbrev t_Mo_begin_409 : List UInt8 := 180 :: 0 :: 169 :: t_Mo_begin_412
abbrev t_Mo_begin_408 : List UInt8 := 42 :: t_Mo_begin_409
abbrev t_Mo_begin_405 : List UInt8 := 153 :: 0 :: 12 :: t_Mo_begin_408
abbrev t_Mo_begin_404 : List UInt8 := 148 :: t_Mo_begin_405
abbrev t_Mo_begin_403 : List UInt8 := 9 :: t_Mo_begin_404
abbrev t_Mo_begin_401 : List UInt8 := 22 :: 6 :: t_Mo_begin_403
abbrev t_Mo_begin_400 : List UInt8 := 27 :: t_Mo_begin_401
abbrev t_Mo_begin_397 : List UInt8 := 180 :: 0 :: 184 :: t_Mo_begin_400
abbrev t_Mo_begin_396 : List UInt8 := 42 :: t_Mo_begin_397
abbrev t_Mo_begin_393 : List UInt8 := 160 :: 0 :: 39 :: t_Mo_begin_396
abbrev t_Mo_begin_391 : List UInt8 := 16 :: 15 :: t_Mo_begin_393
abbrev t_Mo_begin_390 : List UInt8 := 29 :: t_Mo_begin_391
abbrev t_Mo_begin_387 : List UInt8 := 167 :: 0 :: 143 :: t_Mo_begin_390
abbrev t_Mo_begin_386 : List UInt8 := 84 :: t_Mo_begin_387
abbrev t_Mo_begin_385 : List UInt8 := 3 :: t_Mo_begin_386
abbrev t_Mo_begin_382 : List UInt8 := 167 :: 0 :: 4 :: t_Mo_begin_385
abbrev t_Mo_begin_381 : List UInt8 := 4 :: t_Mo_begin_382
abbrev t_Mo_begin_378 : List UInt8 := 153 :: 0 :: 7 :: t_Mo_begin_381
abbrev t_Mo_begin_377 : List UInt8 := 148 :: t_Mo_begin_378
abbrev t_Mo_begin_376 : List UInt8 := 9 :: t_Mo_begin_377
abbrev t_Mo_begin_374 : List UInt8 := 22 :: 6 :: t_Mo_begin_376
abbrev t_Mo_begin_373 : List UInt8 := 27 :: t_Mo_begin_374
abbrev t_Mo_begin_370 : List UInt8 := 180 :: 0 :: 178 :: t_Mo_begin_373
abbrev t_Mo_begin_369 : List UInt8 := 42 :: t_Mo_begin_370
abbrev t_Mo_begin_366 : List UInt8 := 160 :: 0 :: 24 :: t_Mo_begin_369
abbrev t_Mo_begin_364 : List UInt8 := 16 :: 12 :: t_Mo_begin_366
abbrev t_Mo_begin_363 : List UInt8 := 29 :: t_Mo_begin_364
abbrev t_Mo_begin_360 : List UInt8 := 167 :: 0 :: 170 :: t_Mo_begin_363
abbrev t_Mo_begin_359 : List UInt8 := 80 :: t_Mo_begin_360
abbrev t_Mo_begin_358 : List UInt8 := 47 :: t_Mo_begin_359
abbrev t_Mo_begin_356 : List UInt8 := 21 :: 10 :: t_Mo_begin_358
abbrev t_Mo_begin_353 : List UInt8 := 180 :: 0 :: 159 :: t_Mo_begin_356
abbrev t_Mo_begin_352 : List UInt8 := 42 :: t_Mo_begin_353
abbrev t_Mo_begin_349 : List UInt8 := 167 :: 0 :: 10 :: t_Mo_begin_352
abbrev t_Mo_begin_347 : List UInt8 := 22 :: 6 :: t_Mo_begin_349
abbrev t_Mo_begin_344 : List UInt8 := 153 :: 0 :: 8 :: t_Mo_begin_347
abbrev t_Mo_begin_343 : List UInt8 := 51 :: t_Mo_begin_344
abbrev t_Mo_begin_342 : List UInt8 := 27 :: t_Mo_begin_343
abbrev t_Mo_begin_339 : List UInt8 := 180 :: 0 :: 178 :: t_Mo_begin_342
abbrev t_Mo_begin_338 : List UInt8 := 42 :: t_Mo_begin_339
abbrev t_Mo_begin_336 : List UInt8 := 21 :: 10 :: t_Mo_begin_338
abbrev t_Mo_begin_333 : List UInt8 := 180 :: 0 :: 159 :: t_Mo_begin_336
abbrev t_Mo_begin_332 : List UInt8 := 42 :: t_Mo_begin_333
abbrev t_Mo_begin_331 : List UInt8 := 84 :: t_Mo_begin_332
abbrev t_Mo_begin_330 : List UInt8 := 3 :: t_Mo_begin_331
abbrev t_Mo_begin_327 : List UInt8 := 167 :: 0 :: 4 :: t_Mo_begin_330
abbrev t_Mo_begin_326 : List UInt8 := 4 :: t_Mo_begin_327
abbrev t_Mo_begin_323 : List UInt8 := 156 :: 0 :: 7 :: t_Mo_begin_326
abbrev t_Mo_begin_322 : List UInt8 := 148 :: t_Mo_begin_323
abbrev t_Mo_begin_321 : List UInt8 := 10 :: t_Mo_begin_322
abbrev t_Mo_begin_320 : List UInt8 := 47 :: t_Mo_begin_321
abbrev t_Mo_begin_319 : List UInt8 := 27 :: t_Mo_begin_320
abbrev t_Mo_begin_316 : List UInt8 := 180 :: 0 :: 190 :: t_Mo_begin_319
abbrev t_Mo_begin_315 : List UInt8 := 42 :: t_Mo_begin_316
abbrev t_Mo_begin_314 : List UInt8 := 27 :: t_Mo_begin_315
abbrev t_Mo_begin_311 : List UInt8 := 180 :: 0 :: 178 :: t_Mo_begin_314
abbrev t_Mo_begin_310 : List UInt8 := 42 :: t_Mo_begin_311
abbrev t_Mo_begin_309 : List UInt8 := 80 :: t_Mo_begin_310
abbrev t_Mo_begin_308 : List UInt8 := 47 :: t_Mo_begin_309
abbrev t_Mo_begin_306 : List UInt8 := 21 :: 10 :: t_Mo_begin_308
abbrev t_Mo_begin_303 : List UInt8 := 180 :: 0 :: 159 :: t_Mo_begin_306
abbrev t_Mo_begin_302 : List UInt8 := 42 :: t_Mo_begin_303
abbrev t_Mo_begin_301 : List UInt8 := 27 :: t_Mo_begin_302
abbrev t_Mo_begin_298 : List UInt8 := 180 :: 0 :: 196 :: t_Mo_begin_301
abbrev t_Mo_begin_297 : List UInt8 := 42 :: t_Mo_begin_298
abbrev t_Mo_begin_294 : List UInt8 := 160 :: 0 :: 69 :: t_Mo_begin_297
abbrev t_Mo_begin_292 : List UInt8 := 16 :: 13 :: t_Mo_begin_294
abbrev t_Mo_begin_291 : List UInt8 := 29 :: t_Mo_begin_292
abbrev t_Mo_begin_288 : List UInt8 := 167 :: 0 :: 242 :: t_Mo_begin_291
abbrev t_Mo_begin_287 : List UInt8 := 80 :: t_Mo_begin_288
abbrev t_Mo_begin_285 : List UInt8 := 22 :: 6 :: t_Mo_begin_287
abbrev t_Mo_begin_283 : List UInt8 := 21 :: 10 :: t_Mo_begin_285
abbrev t_Mo_begin_280 : List UInt8 := 180 :: 0 :: 159 :: t_Mo_begin_283
abbrev t_Mo_begin_279 : List UInt8 := 42 :: t_Mo_begin_280
abbrev t_Mo_begin_276 : List UInt8 := 160 :: 0 :: 15 :: t_Mo_begin_279
abbrev t_Mo_begin_274 : List UInt8 := 16 :: 10 :: t_Mo_begin_276
abbrev t_Mo_begin_273 : List UInt8 := 29 :: t_Mo_begin_274
abbrev t_Mo_begin_271 : List UInt8 := 54 :: 10 :: t_Mo_begin_273
abbrev t_Mo_begin_270 : List UInt8 := 136 :: t_Mo_begin_271
abbrev t_Mo_begin_269 : List UInt8 := 47 :: t_Mo_begin_270
abbrev t_Mo_begin_267 : List UInt8 := 21 :: 4 :: t_Mo_begin_269
abbrev t_Mo_begin_264 : List UInt8 := 180 :: 1 :: 243 :: t_Mo_begin_267
abbrev t_Mo_begin_261 : List UInt8 := 180 :: 0 :: 16 :: t_Mo_begin_264
abbrev t_Mo_begin_260 : List UInt8 := 42 :: t_Mo_begin_261
abbrev t_Mo_begin_259 : List UInt8 := 84 :: t_Mo_begin_260
abbrev t_Mo_begin_258 : List UInt8 := 3 :: t_Mo_begin_259
abbrev t_Mo_begin_257 : List UInt8 := 27 :: t_Mo_begin_258
abbrev t_Mo_begin_254 : List UInt8 := 180 :: 0 :: 178 :: t_Mo_begin_257
abbrev t_Mo_begin_253 : List UInt8 := 42 :: t_Mo_begin_254
abbrev t_Mo_begin_252 : List UInt8 := 80 :: t_Mo_begin_253
abbrev t_Mo_begin_251 : List UInt8 := 109 :: t_Mo_begin_252
abbrev t_Mo_begin_248 : List UInt8 := 20 :: 1 :: 198 :: t_Mo_begin_251
abbrev t_Mo_begin_246 : List UInt8 := 22 :: 6 :: t_Mo_begin_248
abbrev t_Mo_begin_243 : List UInt8 := 167 :: 0 :: 5 :: t_Mo_begin_246
abbrev t_Mo_begin_241 : List UInt8 := 22 :: 8 :: t_Mo_begin_243
abbrev t_Mo_begin_238 : List UInt8 := 160 :: 0 :: 8 :: t_Mo_begin_241
abbrev t_Mo_begin_236 : List UInt8 := 16 :: 13 :: t_Mo_begin_238
abbrev t_Mo_begin_235 : List UInt8 := 29 :: t_Mo_begin_236
abbrev t_Mo_begin_234 : List UInt8 := 27 :: t_Mo_begin_235
abbrev t_Mo_begin_231 : List UInt8 := 180 :: 0 :: 190 :: t_Mo_begin_234
abbrev t_Mo_begin_230 : List UInt8 := 42 :: t_Mo_begin_231
abbrev t_Mo_begin_229 : List UInt8 := 80 :: t_Mo_begin_230
abbrev t_Mo_begin_227 : List UInt8 := 22 :: 6 :: t_Mo_begin_229
abbrev t_Mo_begin_226 : List UInt8 := 27 :: t_Mo_begin_227
abbrev t_Mo_begin_223 : List UInt8 := 180 :: 0 :: 193 :: t_Mo_begin_226
abbrev t_Mo_begin_222 : List UInt8 := 42 :: t_Mo_begin_223
abbrev t_Mo_begin_221 : List UInt8 := 79 :: t_Mo_begin_222
abbrev t_Mo_begin_220 : List UInt8 := 46 :: t_Mo_begin_221
abbrev t_Mo_begin_219 : List UInt8 := 27 :: t_Mo_begin_220
abbrev t_Mo_begin_216 : List UInt8 := 180 :: 0 :: 169 :: t_Mo_begin_219
abbrev t_Mo_begin_215 : List UInt8 := 42 :: t_Mo_begin_216
abbrev t_Mo_begin_214 : List UInt8 := 27 :: t_Mo_begin_215
abbrev t_Mo_begin_211 : List UInt8 := 180 :: 0 :: 184 :: t_Mo_begin_214
abbrev t_Mo_begin_210 : List UInt8 := 42 :: t_Mo_begin_211
abbrev t_Mo_begin_209 : List UInt8 := 79 :: t_Mo_begin_210
abbrev t_Mo_begin_206 : List UInt8 := 180 :: 2 :: 8 :: t_Mo_begin_209
abbrev t_Mo_begin_205 : List UInt8 := 42 :: t_Mo_begin_206
abbrev t_Mo_begin_204 : List UInt8 := 27 :: t_Mo_begin_205
abbrev t_Mo_begin_201 : List UInt8 := 180 :: 0 :: 187 :: t_Mo_begin_204
abbrev t_Mo_begin_200 : List UInt8 := 42 :: t_Mo_begin_201
abbrev t_Mo_begin_199 : List UInt8 := 84 :: t_Mo_begin_200
abbrev t_Mo_begin_198 : List UInt8 := 4 :: t_Mo_begin_199
abbrev t_Mo_begin_197 : List UInt8 := 27 :: t_Mo_begin_198
abbrev t_Mo_begin_194 : List UInt8 := 180 :: 0 :: 175 :: t_Mo_begin_197
abbrev t_Mo_begin_193 : List UInt8 := 42 :: t_Mo_begin_194
abbrev t_Mo_begin_192 : List UInt8 := 172 :: t_Mo_begin_193
abbrev t_Mo_begin_191 : List UInt8 := 3 :: t_Mo_begin_192
abbrev t_Mo_begin_188 : List UInt8 := 153 :: 0 :: 5 :: t_Mo_begin_191
abbrev t_Mo_begin_185 : List UInt8 := 182 :: 2 :: 23 :: t_Mo_begin_188
abbrev t_Mo_begin_184 : List UInt8 := 42 :: t_Mo_begin_185
abbrev t_Mo_begin_182 : List UInt8 := 55 :: 8 :: t_Mo_begin_184
abbrev t_Mo_begin_181 : List UInt8 := 9 :: t_Mo_begin_182
abbrev t_Mo_begin_178 : List UInt8 := 167 :: 0 :: 4 :: t_Mo_begin_181
abbrev t_Mo_begin_175 : List UInt8 := 182 :: 2 :: 11 :: t_Mo_begin_178
abbrev t_Mo_begin_172 : List UInt8 := 182 :: 1 :: 246 :: t_Mo_begin_175
abbrev t_Mo_begin_171 : List UInt8 := 4 :: t_Mo_begin_172
abbrev t_Mo_begin_170 : List UInt8 := 28 :: t_Mo_begin_171
abbrev t_Mo_begin_167 : List UInt8 := 180 :: 0 :: 16 :: t_Mo_begin_170
abbrev t_Mo_begin_166 : List UInt8 := 42 :: t_Mo_begin_167
abbrev t_Mo_begin_165 : List UInt8 := 42 :: t_Mo_begin_166
abbrev t_Mo_begin_162 : List UInt8 := 160 :: 0 :: 19 :: t_Mo_begin_165
abbrev t_Mo_begin_160 : List UInt8 := 16 :: 13 :: t_Mo_begin_162
abbrev t_Mo_begin_159 : List UInt8 := 29 :: t_Mo_begin_160
abbrev t_Mo_begin_157 : List UInt8 := 55 :: 6 :: t_Mo_begin_159
abbrev t_Mo_begin_156 : List UInt8 := 9 :: t_Mo_begin_157
abbrev t_Mo_begin_153 : List UInt8 := 167 :: 0 :: 4 :: t_Mo_begin_156
abbrev t_Mo_begin_150 : List UInt8 := 182 :: 2 :: 11 :: t_Mo_begin_153
abbrev t_Mo_begin_147 : List UInt8 := 182 :: 1 :: 246 :: t_Mo_begin_150
abbrev t_Mo_begin_146 : List UInt8 := 3 :: t_Mo_begin_147
abbrev t_Mo_begin_145 : List UInt8 := 28 :: t_Mo_begin_146
abbrev t_Mo_begin_142 : List UInt8 := 180 :: 0 :: 16 :: t_Mo_begin_145
abbrev t_Mo_begin_141 : List UInt8 := 42 :: t_Mo_begin_142
abbrev t_Mo_begin_140 : List UInt8 := 42 :: t_Mo_begin_141
abbrev t_Mo_begin_137 : List UInt8 := 153 :: 0 :: 19 :: t_Mo_begin_140
abbrev t_Mo_begin_135 : List UInt8 := 21 :: 5 :: t_Mo_begin_137
abbrev t_Mo_begin_133 : List UInt8 := 54 :: 5 :: t_Mo_begin_135
abbrev t_Mo_begin_132 : List UInt8 := 3 :: t_Mo_begin_133
abbrev t_Mo_begin_129 : List UInt8 := 167 :: 0 :: 4 :: t_Mo_begin_132
abbrev t_Mo_begin_128 : List UInt8 := 4 :: t_Mo_begin_129
abbrev t_Mo_begin_125 : List UInt8 := 160 :: 0 :: 7 :: t_Mo_begin_128
abbrev t_Mo_begin_123 : List UInt8 := 16 :: 13 :: t_Mo_begin_125
abbrev t_Mo_begin_122 : List UInt8 := 29 :: t_Mo_begin_123
abbrev t_Mo_begin_119 : List UInt8 := 159 :: 0 :: 9 :: t_Mo_begin_122
abbrev t_Mo_begin_117 : List UInt8 := 16 :: 17 :: t_Mo_begin_119
abbrev t_Mo_begin_116 : List UInt8 := 29 :: t_Mo_begin_117
abbrev t_Mo_begin_113 : List UInt8 := 159 :: 0 :: 15 :: t_Mo_begin_116
abbrev t_Mo_begin_111 : List UInt8 := 16 :: 16 :: t_Mo_begin_113
abbrev t_Mo_begin_110 : List UInt8 := 29 :: t_Mo_begin_111
abbrev t_Mo_begin_107 : List UInt8 := 159 :: 0 :: 21 :: t_Mo_begin_110
abbrev t_Mo_begin_105 : List UInt8 := 16 :: 15 :: t_Mo_begin_107
abbrev t_Mo_begin_104 : List UInt8 := 29 :: t_Mo_begin_105
abbrev t_Mo_begin_101 : List UInt8 := 159 :: 0 :: 27 :: t_Mo_begin_104
abbrev t_Mo_begin_99 : List UInt8 := 16 :: 12 :: t_Mo_begin_101
abbrev t_Mo_begin_98 : List UInt8 := 29 :: t_Mo_begin_99
abbrev t_Mo_begin_95 : List UInt8 := 159 :: 0 :: 33 :: t_Mo_begin_98
abbrev t_Mo_begin_93 : List UInt8 := 16 :: 11 :: t_Mo_begin_95
abbrev t_Mo_begin_92 : List UInt8 := 29 :: t_Mo_begin_93
abbrev t_Mo_begin_89 : List UInt8 := 159 :: 0 :: 39 :: t_Mo_begin_92
abbrev t_Mo_begin_87 : List UInt8 := 16 :: 10 :: t_Mo_begin_89
abbrev t_Mo_begin_86 : List UInt8 := 29 :: t_Mo_begin_87
abbrev t_Mo_begin_84 : List UInt8 := 54 :: 4 :: t_Mo_begin_86
abbrev t_Mo_begin_81 : List UInt8 := 182 :: 1 :: 231 :: t_Mo_begin_84
abbrev t_Mo_begin_80 : List UInt8 := 28 :: t_Mo_begin_81
abbrev t_Mo_begin_77 : List UInt8 := 180 :: 0 :: 16 :: t_Mo_begin_80
abbrev t_Mo_begin_76 : List UInt8 := 42 :: t_Mo_begin_77
abbrev t_Mo_begin_73 : List UInt8 := 181 :: 2 :: 20 :: t_Mo_begin_76
abbrev t_Mo_begin_72 : List UInt8 := 96 :: t_Mo_begin_73
abbrev t_Mo_begin_71 : List UInt8 := 3 :: t_Mo_begin_72
abbrev t_Mo_begin_68 : List UInt8 := 167 :: 0 :: 4 :: t_Mo_begin_71
abbrev t_Mo_begin_67 : List UInt8 := 4 :: t_Mo_begin_68
abbrev t_Mo_begin_64 : List UInt8 := 160 :: 0 :: 7 :: t_Mo_begin_67
abbrev t_Mo_begin_62 : List UInt8 := 16 :: 22 :: t_Mo_begin_64
abbrev t_Mo_begin_61 : List UInt8 := 29 :: t_Mo_begin_62
abbrev t_Mo_begin_58 : List UInt8 := 180 :: 2 :: 20 :: t_Mo_begin_61
abbrev t_Mo_begin_57 : List UInt8 := 89 :: t_Mo_begin_58
abbrev t_Mo_begin_56 : List UInt8 := 42 :: t_Mo_begin_57
abbrev t_Mo_begin_53 : List UInt8 := 181 :: 2 :: 17 :: t_Mo_begin_56
abbrev t_Mo_begin_52 : List UInt8 := 96 :: t_Mo_begin_53
abbrev t_Mo_begin_51 : List UInt8 := 4 :: t_Mo_begin_52
abbrev t_Mo_begin_48 : List UInt8 := 180 :: 2 :: 17 :: t_Mo_begin_51
abbrev t_Mo_begin_47 : List UInt8 := 89 :: t_Mo_begin_48
abbrev t_Mo_begin_46 : List UInt8 := 42 :: t_Mo_begin_47
abbrev t_Mo_begin_45 : List UInt8 := 172 :: t_Mo_begin_46
abbrev t_Mo_begin_44 : List UInt8 := 3 :: t_Mo_begin_45
abbrev t_Mo_begin_41 : List UInt8 := 182 :: 1 :: 183 :: t_Mo_begin_44
abbrev t_Mo_begin_40 : List UInt8 := 5 :: t_Mo_begin_41
abbrev t_Mo_begin_39 : List UInt8 := 28 :: t_Mo_begin_40
abbrev t_Mo_begin_38 : List UInt8 := 42 :: t_Mo_begin_39
abbrev t_Mo_begin_35 : List UInt8 := 160 :: 0 :: 11 :: t_Mo_begin_38
abbrev t_Mo_begin_33 : List UInt8 := 16 :: 10 :: t_Mo_begin_35
abbrev t_Mo_begin_30 : List UInt8 := 180 :: 2 :: 20 :: t_Mo_begin_33
abbrev t_Mo_begin_29 : List UInt8 := 42 :: t_Mo_begin_30
abbrev t_Mo_begin_26 : List UInt8 := 160 :: 0 :: 20 :: t_Mo_begin_29
abbrev t_Mo_begin_24 : List UInt8 := 16 :: 22 :: t_Mo_begin_26
abbrev t_Mo_begin_23 : List UInt8 := 29 :: t_Mo_begin_24
abbrev t_Mo_begin_20 : List UInt8 := 159 :: 0 :: 18 :: t_Mo_begin_23
abbrev t_Mo_begin_17 : List UInt8 := 17 :: 3 :: 232 :: t_Mo_begin_20
abbrev t_Mo_begin_14 : List UInt8 := 180 :: 2 :: 17 :: t_Mo_begin_17
abbrev t_Mo_begin_13 : List UInt8 := 42 :: t_Mo_begin_14
abbrev t_Mo_begin_12 : List UInt8 := 62 :: t_Mo_begin_13
abbrev t_Mo_begin_9 : List UInt8 := 182 :: 2 :: 14 :: t_Mo_begin_12
abbrev t_Mo_begin_8 : List UInt8 := 27 :: t_Mo_begin_9
abbrev t_Mo_begin_7 : List UInt8 := 42 :: t_Mo_begin_8
abbrev t_Mo_begin_6 : List UInt8 := 61 :: t_Mo_begin_7
abbrev t_Mo_begin_5 : List UInt8 := 46 :: t_Mo_begin_6
abbrev t_Mo_begin_4 : List UInt8 := 27 :: t_Mo_begin_5
abbrev t_Mo_begin_1 : List UInt8 := 180 :: 0 :: 166 :: t_Mo_begin_4
abbrev t_Mo_begin_0 : List UInt8 := 42 :: t_Mo_begin_1
theorem a_Mo_begin_0 : dk_at b_Mo_begin 0 t_Mo_begin_0 := dk_start (by decide +kernel)
theorem a_Mo_begin_1 : dk_at b_Mo_begin 1 t_Mo_begin_1 := dk_go 1 a_Mo_begin_0 rfl
theorem a_Mo_begin_4 : dk_at b_Mo_begin 4 t_Mo_begin_4 := dk_go 3 a_Mo_begin_1 rfl
theorem a_Mo_begin_5 : dk_at b_Mo_begin 5 t_Mo_begin_5 := dk_go 1 a_Mo_begin_4 rfl
theorem a_Mo_begin_6 : dk_at b_Mo_begin 6 t_Mo_begin_6 := dk_go 1 a_Mo_begin_5 rfl
theorem a_Mo_begin_7 : dk_at b_Mo_begin 7 t_Mo_begin_7 := dk_go 1 a_Mo_begin_6 rfl
theorem a_Mo_begin_8 : dk_at b_Mo_begin 8 t_Mo_begin_8 := dk_go 1 a_Mo_begin_7 rfl
theorem a_Mo_begin_9 : dk_at b_Mo_begin 9 t_Mo_begin_9 := dk_go 1 a_Mo_begin_8 rfl
theorem a_Mo_begin_12 : dk_at b_Mo_begin 12 t_Mo_begin_12 := dk_go 3 a_Mo_begin_9 rfl
theorem a_Mo_begin_13 : dk_at b_Mo_begin 13 t_Mo_begin_13 := dk_go 1 a_Mo_begin_12 rfl
theorem a_Mo_begin_14 : dk_at b_Mo_begin 14 t_Mo_begin_14 := dk_go 1 a_Mo_begin_13 rfl
theorem a_Mo_begin_17 : dk_at b_Mo_begin 17 t_Mo_begin_17 := dk_go 3 a_Mo_begin_14 rfl
theorem a_Mo_begin_20 : dk_at b_Mo_begin 20 t_Mo_begin_20 := dk_go 3 a_Mo_begin_17 rfl
theorem a_Mo_begin_23 : dk_at b_Mo_begin 23 t_Mo_begin_23 := dk_go 3 a_Mo_begin_20 rfl
theorem a_Mo_begin_24 : dk_at b_Mo_begin 24 t_Mo_begin_24 := dk_go 1 a_Mo_begin_23 rfl
theorem a_Mo_begin_26 : dk_at b_Mo_begin 26 t_Mo_begin_26 := dk_go 2 a_Mo_begin_24 rfl
theorem a_Mo_begin_29 : dk_at b_Mo_begin 29 t_Mo_begin_29 := dk_go 3 a_Mo_begin_26 rfl
theorem a_Mo_begin_30 : dk_at b_Mo_begin 30 t_Mo_begin_30 := dk_go 1 a_Mo_begin_29 rfl
theorem a_Mo_begin_33 : dk_at b_Mo_begin 33 t_Mo_begin_33 := dk_go 3 a_Mo_begin_30 rfl
theorem a_Mo_begin_35 : dk_at b_Mo_begin 35 t_Mo_begin_35 := dk_go 2 a_Mo_begin_33 rfl
theorem a_Mo_begin_38 : dk_at b_Mo_begin 38 t_Mo_begin_38 := dk_go 3 a_Mo_begin_35 rfl
theorem a_Mo_begin_39 : dk_at b_Mo_begin 39 t_Mo_begin_39 := dk_go 1 a_Mo_begin_38 rfl
theorem a_Mo_begin_40 : dk_at b_Mo_begin 40 t_Mo_begin_40 := dk_go 1 a_Mo_begin_39 rfl
theorem a_Mo_begin_41 : dk_at b_Mo_begin 41 t_Mo_begin_41 := dk_go 1 a_Mo_begin_40 rfl
theorem a_Mo_begin_44 : dk_at b_Mo_begin 44 t_Mo_begin_44 := dk_go 3 a_Mo_begin_41 rfl
theorem a_Mo_begin_45 : dk_at b_Mo_begin 45 t_Mo_begin_45 := dk_go 1 a_Mo_begin_44 rfl
theorem a_Mo_begin_46 : dk_at b_Mo_begin 46 t_Mo_begin_46 := dk_go 1 a_Mo_begin_45 rfl
theorem a_Mo_begin_47 : dk_at b_Mo_begin 47 t_Mo_begin_47 := dk_go 1 a_Mo_begin_46 rfl
theorem a_Mo_begin_48 : dk_at b_Mo_begin 48 t_Mo_begin_48 := dk_go 1 a_Mo_begin_47 rfl
theorem a_Mo_begin_51 : dk_at b_Mo_begin 51 t_Mo_begin_51 := dk_go 3 a_Mo_begin_48 rfl
theorem a_Mo_begin_52 : dk_at b_Mo_begin 52 t_Mo_begin_52 := dk_go 1 a_Mo_begin_51 rfl
theorem a_Mo_begin_53 : dk_at b_Mo_begin 53 t_Mo_begin_53 := dk_go 1 a_Mo_begin_52 rfl
theorem a_Mo_begin_56 : dk_at b_Mo_begin 56 t_Mo_begin_56 := dk_go 3 a_Mo_begin_53 rfl
theorem a_Mo_begin_57 : dk_at b_Mo_begin 57 t_Mo_begin_57 := dk_go 1 a_Mo_begin_56 rfl
theorem a_Mo_begin_58 : dk_at b_Mo_begin 58 t_Mo_begin_58 := dk_go 1 a_Mo_begin_57 rfl
theorem a_Mo_begin_61 : dk_at b_Mo_begin 61 t_Mo_begin_61 := dk_go 3 a_Mo_begin_58 rfl
theorem a_Mo_begin_62 : dk_at b_Mo_begin 62 t_Mo_begin_62 := dk_go 1 a_Mo_begin_61 rfl
theorem a_Mo_begin_64 : dk_at b_Mo_begin 64 t_Mo_begin_64 := dk_go 2 a_Mo_begin_62 rfl
theorem a_Mo_begin_67 : dk_at b_Mo_begin 67 t_Mo_begin_67 := dk_go 3 a_Mo_begin_64 rfl
theorem a_Mo_begin_68 : dk_at b_Mo_begin 68 t_Mo_begin_68 := dk_go 1 a_Mo_begin_67 rfl
theorem a_Mo_begin_71 : dk_at b_Mo_begin 71 t_Mo_begin_71 := dk_go 3 a_Mo_begin_68 rfl
theorem a_Mo_begin_72 : dk_at b_Mo_begin 72 t_Mo_begin_72 := dk_go 1 a_Mo_begin_71 rfl
theorem a_Mo_begin_73 : dk_at b_Mo_begin 73 t_Mo_begin_73 := dk_go 1 a_Mo_begin_72 rfl
theorem a_Mo_begin_76 : dk_at b_Mo_begin 76 t_Mo_begin_76 := dk_go 3 a_Mo_begin_73 rfl
theorem a_Mo_begin_77 : dk_at b_Mo_begin 77 t_Mo_begin_77 := dk_go 1 a_Mo_begin_76 rfl
theorem a_Mo_begin_80 : dk_at b_Mo_begin 80 t_Mo_begin_80 := dk_go 3 a_Mo_begin_77 rfl
theorem a_Mo_begin_81 : dk_at b_Mo_begin 81 t_Mo_begin_81 := dk_go 1 a_Mo_begin_80 rfl
theorem a_Mo_begin_84 : dk_at b_Mo_begin 84 t_Mo_begin_84 := dk_go 3 a_Mo_begin_81 rfl
theorem a_Mo_begin_86 : dk_at b_Mo_begin 86 t_Mo_begin_86 := dk_go 2 a_Mo_begin_84 rfl
theorem a_Mo_begin_87 : dk_at b_Mo_begin 87 t_Mo_begin_87 := dk_go 1 a_Mo_begin_86 rfl
theorem a_Mo_begin_89 : dk_at b_Mo_begin 89 t_Mo_begin_89 := dk_go 2 a_Mo_begin_87 rfl
theorem a_Mo_begin_92 : dk_at b_Mo_begin 92 t_Mo_begin_92 := dk_go 3 a_Mo_begin_89 rfl
theorem a_Mo_begin_93 : dk_at b_Mo_begin 93 t_Mo_begin_93 := dk_go 1 a_Mo_begin_92 rfl
theorem a_Mo_begin_95 : dk_at b_Mo_begin 95 t_Mo_begin_95 := dk_go 2 a_Mo_begin_93 rfl
theorem a_Mo_begin_98 : dk_at b_Mo_begin 98 t_Mo_begin_98 := dk_go 3 a_Mo_begin_95 rfl
theorem a_Mo_begin_99 : dk_at b_Mo_begin 99 t_Mo_begin_99 := dk_go 1 a_Mo_begin_98 rfl
theorem a_Mo_begin_101 : dk_at b_Mo_begin 101 t_Mo_begin_101 := dk_go 2 a_Mo_begin_99 rfl
theorem a_Mo_begin_104 : dk_at b_Mo_begin 104 t_Mo_begin_104 := dk_go 3 a_Mo_begin_101 rfl
theorem a_Mo_begin_105 : dk_at b_Mo_begin 105 t_Mo_begin_105 := dk_go 1 a_Mo_begin_104 rfl
theorem a_Mo_begin_107 : dk_at b_Mo_begin 107 t_Mo_begin_107 := dk_go 2 a_Mo_begin_105 rfl
theorem a_Mo_begin_110 : dk_at b_Mo_begin 110 t_Mo_begin_110 := dk_go 3 a_Mo_begin_107 rfl
theorem a_Mo_begin_111 : dk_at b_Mo_begin 111 t_Mo_begin_111 := dk_go 1 a_Mo_begin_110 rfl
theorem a_Mo_begin_113 : dk_at b_Mo_begin 113 t_Mo_begin_113 := dk_go 2 a_Mo_begin_111 rfl
theorem a_Mo_begin_116 : dk_at b_Mo_begin 116 t_Mo_begin_116 := dk_go 3 a_Mo_begin_113 rfl
theorem a_Mo_begin_117 : dk_at b_Mo_begin 117 t_Mo_begin_117 := dk_go 1 a_Mo_begin_116 rfl
theorem a_Mo_begin_119 : dk_at b_Mo_begin 119 t_Mo_begin_119 := dk_go 2 a_Mo_begin_117 rfl
theorem a_Mo_begin_122 : dk_at b_Mo_begin 122 t_Mo_begin_122 := dk_go 3 a_Mo_begin_119 rfl
theorem a_Mo_begin_123 : dk_at b_Mo_begin 123 t_Mo_begin_123 := dk_go 1 a_Mo_begin_122 rfl
theorem a_Mo_begin_125 : dk_at b_Mo_begin 125 t_Mo_begin_125 := dk_go 2 a_Mo_begin_123 rfl
theorem a_Mo_begin_128 : dk_at b_Mo_begin 128 t_Mo_begin_128 := dk_go 3 a_Mo_begin_125 rfl
theorem a_Mo_begin_129 : dk_at b_Mo_begin 129 t_Mo_begin_129 := dk_go 1 a_Mo_begin_128 rfl
theorem a_Mo_begin_132 : dk_at b_Mo_begin 132 t_Mo_begin_132 := dk_go 3 a_Mo_begin_129 rfl
theorem a_Mo_begin_133 : dk_at b_Mo_begin 133 t_Mo_begin_133 := dk_go 1 a_Mo_begin_132 rfl
theorem a_Mo_begin_135 : dk_at b_Mo_begin 135 t_Mo_begin_135 := dk_go 2 a_Mo_begin_133 rfl
theorem a_Mo_begin_137 : dk_at b_Mo_begin 137 t_Mo_begin_137 := dk_go 2 a_Mo_begin_135 rfl
theorem a_Mo_begin_140 : dk_at b_Mo_begin 140 t_Mo_begin_140 := dk_go 3 a_Mo_begin_137 rfl
theorem a_Mo_begin_141 : dk_at b_Mo_begin 141 t_Mo_begin_141 := dk_go 1 a_Mo_begin_140 rfl
theorem a_Mo_begin_142 : dk_at b_Mo_begin 142 t_Mo_begin_142 := dk_go 1 a_Mo_begin_141 rfl
theorem a_Mo_begin_145 : dk_at b_Mo_begin 145 t_Mo_begin_145 := dk_go 3 a_Mo_begin_142 rfl
theorem a_Mo_begin_146 : dk_at b_Mo_begin 146 t_Mo_begin_146 := dk_go 1 a_Mo_begin_145 rfl
theorem a_Mo_begin_147 : dk_at b_Mo_begin 147 t_Mo_begin_147 := dk_go 1 a_Mo_begin_146 rfl
theorem a_Mo_begin_150 : dk_at b_Mo_begin 150 t_Mo_begin_150 := dk_go 3 a_Mo_begin_147 rfl
theorem a_Mo_begin_153 : dk_at b_Mo_begin 153 t_Mo_begin_153 := dk_go 3 a_Mo_begin_150 rfl
theorem a_Mo_begin_156 : dk_at b_Mo_begin 156 t_Mo_begin_156 := dk_go 3 a_Mo_begin_153 rfl
theorem a_Mo_begin_157 : dk_at b_Mo_begin 157 t_Mo_begin_157 := dk_go 1 a_Mo_begin_156 rfl
theorem a_Mo_begin_159 : dk_at b_Mo_begin 159 t_Mo_begin_159 := dk_go 2 a_Mo_begin_157 rfl
theorem a_Mo_begin_160 : dk_at b_Mo_begin 160 t_Mo_begin_160 := dk_go 1 a_Mo_begin_159 rfl
theorem a_Mo_begin_162 : dk_at b_Mo_begin 162 t_Mo_begin_162 := dk_go 2 a_Mo_begin_160 rfl
theorem a_Mo_begin_165 : dk_at b_Mo_begin 165 t_Mo_begin_165 := dk_go 3 a_Mo_begin_162 rfl
theorem a_Mo_begin_166 : dk_at b_Mo_begin 166 t_Mo_begin_166 := dk_go 1 a_Mo_begin_165 rfl
theorem a_Mo_begin_167 : dk_at b_Mo_begin 167 t_Mo_begin_167 := dk_go 1 a_Mo_begin_166 rfl
theorem a_Mo_begin_170 : dk_at b_Mo_begin 170 t_Mo_begin_170 := dk_go 3 a_Mo_begin_167 rfl
theorem a_Mo_begin_171 : dk_at b_Mo_begin 171 t_Mo_begin_171 := dk_go 1 a_Mo_begin_170 rfl
theorem a_Mo_begin_172 : dk_at b_Mo_begin 172 t_Mo_begin_172 := dk_go 1 a_Mo_begin_171 rfl
theorem a_Mo_begin_175 : dk_at b_Mo_begin 175 t_Mo_begin_175 := dk_go 3 a_Mo_begin_172 rfl
theorem a_Mo_begin_178 : dk_at b_Mo_begin 178 t_Mo_begin_178 := dk_go 3 a_Mo_begin_175 rfl
theorem a_Mo_begin_181 : dk_at b_Mo_begin 181 t_Mo_begin_181 := dk_go 3 a_Mo_begin_178 rfl
theorem a_Mo_begin_182 : dk_at b_Mo_begin 182 t_Mo_begin_182 := dk_go 1 a_Mo_begin_181 rfl
theorem a_Mo_begin_184 : dk_at b_Mo_begin 184 t_Mo_begin_184 := dk_go 2 a_Mo_begin_182 rfl
theorem a_Mo_begin_185 : dk_at b_Mo_begin 185 t_Mo_begin_185 := dk_go 1 a_Mo_begin_184 rfl
theorem a_Mo_begin_188 : dk_at b_Mo_begin 188 t_Mo_begin_188 := dk_go 3 a_Mo_begin_185 rfl
theorem a_Mo_begin_191 : dk_at b_Mo_begin 191 t_Mo_begin_191 := dk_go 3 a_Mo_begin_188 rfl
theorem a_Mo_begin_192 : dk_at b_Mo_begin 192 t_Mo_begin_192 := dk_go 1 a_Mo_begin_191 rfl
theorem a_Mo_begin_193 : dk_at b_Mo_begin 193 t_Mo_begin_193 := dk_go 1 a_Mo_begin_192 rfl
theorem a_Mo_begin_194 : dk_at b_Mo_begin 194 t_Mo_begin_194 := dk_go 1 a_Mo_begin_193 rfl
theorem a_Mo_begin_197 : dk_at b_Mo_begin 197 t_Mo_begin_197 := dk_go 3 a_Mo_begin_194 rfl
theorem a_Mo_begin_198 : dk_at b_Mo_begin 198 t_Mo_begin_198 := dk_go 1 a_Mo_begin_197 rfl
theorem a_Mo_begin_199 : dk_at b_Mo_begin 199 t_Mo_begin_199 := dk_go 1 a_Mo_begin_198 rfl
theorem a_Mo_begin_200 : dk_at b_Mo_begin 200 t_Mo_begin_200 := dk_go 1 a_Mo_begin_199 rfl
theorem a_Mo_begin_201 : dk_at b_Mo_begin 201 t_Mo_begin_201 := dk_go 1 a_Mo_begin_200 rfl
theorem a_Mo_begin_204 : dk_at b_Mo_begin 204 t_Mo_begin_204 := dk_go 3 a_Mo_begin_201 rfl
theorem a_Mo_begin_205 : dk_at b_Mo_begin 205 t_Mo_begin_205 := dk_go 1 a_Mo_begin_204 rfl
theorem a_Mo_begin_206 : dk_at b_Mo_begin 206 t_Mo_begin_206 := dk_go 1 a_Mo_begin_205 rfl
theorem a_Mo_begin_209 : dk_at b_Mo_begin 209 t_Mo_begin_209 := dk_go 3 a_Mo_begin_206 rfl
theorem a_Mo_begin_210 : dk_at b_Mo_begin 210 t_Mo_begin_210 := dk_go 1 a_Mo_begin_209 rfl
theorem a_Mo_begin_211 : dk_at b_Mo_begin 211 t_Mo_begin_211 := dk_go 1 a_Mo_begin_210 rfl
theorem a_Mo_begin_214 : dk_at b_Mo_begin 214 t_Mo_begin_214 := dk_go 3 a_Mo_begin_211 rfl
theorem a_Mo_begin_215 : dk_at b_Mo_begin 215 t_Mo_begin_215 := dk_go 1 a_Mo_begin_214 rfl
theorem a_Mo_begin_216 : dk_at b_Mo_begin 216 t_Mo_begin_216 := dk_go 1 a_Mo_begin_215 rfl
theorem a_Mo_begin_219 : dk_at b_Mo_begin 219 t_Mo_begin_219 := dk_go 3 a_Mo_begin_216 rfl
theorem a_Mo_begin_220 : dk_at b_Mo_begin 220 t_Mo_begin_220 := dk_go 1 a_Mo_begin_219 rfl
theorem a_Mo_begin_221 : dk_at b_Mo_begin 221 t_Mo_begin_221 := dk_go 1 a_Mo_begin_220 rfl
theorem a_Mo_begin_222 : dk_at b_Mo_begin 222 t_Mo_begin_222 := dk_go 1 a_Mo_begin_221 rfl
theorem a_Mo_begin_223 : dk_at b_Mo_begin 223 t_Mo_begin_223 := dk_go 1 a_Mo_begin_222 rfl
theorem a_Mo_begin_226 : dk_at b_Mo_begin 226 t_Mo_begin_226 := dk_go 3 a_Mo_begin_223 rfl
theorem a_Mo_begin_227 : dk_at b_Mo_begin 227 t_Mo_begin_227 := dk_go 1 a_Mo_begin_226 rfl
theorem a_Mo_begin_229 : dk_at b_Mo_begin 229 t_Mo_begin_229 := dk_go 2 a_Mo_begin_227 rfl
theorem a_Mo_begin_230 : dk_at b_Mo_begin 230 t_Mo_begin_230 := dk_go 1 a_Mo_begin_229 rfl
theorem a_Mo_begin_231 : dk_at b_Mo_begin 231 t_Mo_begin_231 := dk_go 1 a_Mo_begin_230 rfl
theorem a_Mo_begin_234 : dk_at b_Mo_begin 234 t_Mo_begin_234 := dk_go 3 a_Mo_begin_231 rfl
theorem a_Mo_begin_235 : dk_at b_Mo_begin 235 t_Mo_begin_235 := dk_go 1 a_Mo_begin_234 rfl
theorem a_Mo_begin_236 : dk_at b_Mo_begin 236 t_Mo_begin_236 := dk_go 1 a_Mo_begin_235 rfl
theorem a_Mo_begin_238 : dk_at b_Mo_begin 238 t_Mo_begin_238 := dk_go 2 a_Mo_begin_236 rfl
theorem a_Mo_begin_241 : dk_at b_Mo_begin 241 t_Mo_begin_241 := dk_go 3 a_Mo_begin_238 rfl
theorem a_Mo_begin_243 : dk_at b_Mo_begin 243 t_Mo_begin_243 := dk_go 2 a_Mo_begin_241 rfl
theorem a_Mo_begin_246 : dk_at b_Mo_begin 246 t_Mo_begin_246 := dk_go 3 a_Mo_begin_243 rfl
theorem a_Mo_begin_248 : dk_at b_Mo_begin 248 t_Mo_begin_248 := dk_go 2 a_Mo_begin_246 rfl
theorem a_Mo_begin_251 : dk_at b_Mo_begin 251 t_Mo_begin_251 := dk_go 3 a_Mo_begin_248 rfl
theorem a_Mo_begin_252 : dk_at b_Mo_begin 252 t_Mo_begin_252 := dk_go 1 a_Mo_begin_251 rfl
theorem a_Mo_begin_253 : dk_at b_Mo_begin 253 t_Mo_begin_253 := dk_go 1 a_Mo_begin_252 rfl
theorem a_Mo_begin_254 : dk_at b_Mo_begin 254 t_Mo_begin_254 := dk_go 1 a_Mo_begin_253 rfl
theorem a_Mo_begin_257 : dk_at b_Mo_begin 257 t_Mo_begin_257 := dk_go 3 a_Mo_begin_254 rfl
theorem a_Mo_begin_258 : dk_at b_Mo_begin 258 t_Mo_begin_258 := dk_go 1 a_Mo_begin_257 rfl
theorem a_Mo_begin_259 : dk_at b_Mo_begin 259 t_Mo_begin_259 := dk_go 1 a_Mo_begin_258 rfl
theorem a_Mo_begin_260 : dk_at b_Mo_begin 260 t_Mo_begin_260 := dk_go 1 a_Mo_begin_259 rfl
theorem a_Mo_begin_261 : dk_at b_Mo_begin 261 t_Mo_begin_261 := dk_go 1 a_Mo_begin_260 rfl
theorem a_Mo_begin_264 : dk_at b_Mo_begin 264 t_Mo_begin_264 := dk_go 3 a_Mo_begin_261 rfl
theorem a_Mo_begin_267 : dk_at b_Mo_begin 267 t_Mo_begin_267 := dk_go 3 a_Mo_begin_264 rfl
theorem a_Mo_begin_269 : dk_at b_Mo_begin 269 t_Mo_begin_269 := dk_go 2 a_Mo_begin_267 rfl
theorem a_Mo_begin_270 : dk_at b_Mo_begin 270 t_Mo_begin_270 := dk_go 1 a_Mo_begin_269 rfl
theorem a_Mo_begin_271 : dk_at b_Mo_begin 271 t_Mo_begin_271 := dk_go 1 a_Mo_begin_270 rfl
theorem a_Mo_begin_273 : dk_at b_Mo_begin 273 t_Mo_begin_273 := dk_go 2 a_Mo_begin_271 rfl
theorem a_Mo_begin_274 : dk_at b_Mo_begin 274 t_Mo_begin_274 := dk_go 1 a_Mo_begin_273 rfl
theorem a_Mo_begin_276 : dk_at b_Mo_begin 276 t_Mo_begin_276 := dk_go 2 a_Mo_begin_274 rfl
theorem a_Mo_begin_279 : dk_at b_Mo_begin 279 t_Mo_begin_279 := dk_go 3 a_Mo_begin_276 rfl
theorem a_Mo_begin_280 : dk_at b_Mo_begin 280 t_Mo_begin_280 := dk_go 1 a_Mo_begin_279 rfl
theorem a_Mo_begin_283 : dk_at b_Mo_begin 283 t_Mo_begin_283 := dk_go 3 a_Mo_begin_280 rfl
theorem a_Mo_begin_285 : dk_at b_Mo_begin 285 t_Mo_begin_285 := dk_go 2 a_Mo_begin_283 rfl
theorem a_Mo_begin_287 : dk_at b_Mo_begin 287 t_Mo_begin_287 := dk_go 2 a_Mo_begin_285 rfl
theorem a_Mo_begin_288 : dk_at b_Mo_begin 288 t_Mo_begin_288 := dk_go 1 a_Mo_begin_287 rfl
theorem a_Mo_begin_291 : dk_at b_Mo_begin 291 t_Mo_begin_291 := dk_go 3 a_Mo_begin_288 rfl
theorem a_Mo_begin_292 : dk_at b_Mo_begin 292 t_Mo_begin_292 := dk_go 1 a_Mo_begin_291 rfl
theorem a_Mo_begin_294 : dk_at b_Mo_begin 294 t_Mo_begin_294 := dk_go 2 a_Mo_begin_292 rfl
theorem a_Mo_begin_297 : dk_at b_Mo_begin 297 t_Mo_begin_297 := dk_go 3 a_Mo_begin_294 rfl
theorem a_Mo_begin_298 : dk_at b_Mo_begin 298 t_Mo_begin_298 := dk_go 1 a_Mo_begin_297 rfl
theorem a_Mo_begin_301 : dk_at b_Mo_begin 301 t_Mo_begin_301 := dk_go 3 a_Mo_begin_298 rfl
theorem a_Mo_begin_302 : dk_at b_Mo_begin 302 t_Mo_begin_302 := dk_go 1 a_Mo_begin_301 rfl
theorem a_Mo_begin_303 : dk_at b_Mo_begin 303 t_Mo_begin_303 := dk_go 1 a_Mo_begin_302 rfl
theorem a_Mo_begin_306 : dk_at b_Mo_begin 306 t_Mo_begin_306 := dk_go 3 a_Mo_begin_303 rfl
theorem a_Mo_begin_308 : dk_at b_Mo_begin 308 t_Mo_begin_308 := dk_go 2 a_Mo_begin_306 rfl
theorem a_Mo_begin_309 : dk_at b_Mo_begin 309 t_Mo_begin_309 := dk_go 1 a_Mo_begin_308 rfl
theorem a_Mo_begin_310 : dk_at b_Mo_begin 310 t_Mo_begin_310 := dk_go 1 a_Mo_begin_309 rfl
theorem a_Mo_begin_311 : dk_at b_Mo_begin 311 t_Mo_begin_311 := dk_go 1 a_Mo_begin_310 rfl
theorem a_Mo_begin_314 : dk_at b_Mo_begin 314 t_Mo_begin_314 := dk_go 3 a_Mo_begin_311 rfl
theorem a_Mo_begin_315 : dk_at b_Mo_begin 315 t_Mo_begin_315 := dk_go 1 a_Mo_begin_314 rfl
theorem a_Mo_begin_316 : dk_at b_Mo_begin 316 t_Mo_begin_316 := dk_go 1 a_Mo_begin_315 rfl
theorem a_Mo_begin_319 : dk_at b_Mo_begin 319 t_Mo_begin_319 := dk_go 3 a_Mo_begin_316 rfl
theorem a_Mo_begin_320 : dk_at b_Mo_begin 320 t_Mo_begin_320 := dk_go 1 a_Mo_begin_319 rfl
theorem a_Mo_begin_321 : dk_at b_Mo_begin 321 t_Mo_begin_321 := dk_go 1 a_Mo_begin_320 rfl
theorem a_Mo_begin_322 : dk_at b_Mo_begin 322 t_Mo_begin_322 := dk_go 1 a_Mo_begin_321 rfl
theorem a_Mo_begin_323 : dk_at b_Mo_begin 323 t_Mo_begin_323 := dk_go 1 a_Mo_begin_322 rfl
theorem a_Mo_begin_326 : dk_at b_Mo_begin 326 t_Mo_begin_326 := dk_go 3 a_Mo_begin_323 rfl
theorem a_Mo_begin_327 : dk_at b_Mo_begin 327 t_Mo_begin_327 := dk_go 1 a_Mo_begin_326 rfl
theorem a_Mo_begin_330 : dk_at b_Mo_begin 330 t_Mo_begin_330 := dk_go 3 a_Mo_begin_327 rfl
theorem a_Mo_begin_331 : dk_at b_Mo_begin 331 t_Mo_begin_331 := dk_go 1 a_Mo_begin_330 rfl
theorem a_Mo_begin_332 : dk_at b_Mo_begin 332 t_Mo_begin_332 := dk_go 1 a_Mo_begin_331 rfl
theorem a_Mo_begin_333 : dk_at b_Mo_begin 333 t_Mo_begin_333 := dk_go 1 a_Mo_begin_332 rfl
theorem a_Mo_begin_336 : dk_at b_Mo_begin 336 t_Mo_begin_336 := dk_go 3 a_Mo_begin_333 rfl
theorem a_Mo_begin_338 : dk_at b_Mo_begin 338 t_Mo_begin_338 := dk_go 2 a_Mo_begin_336 rfl
theorem a_Mo_begin_339 : dk_at b_Mo_begin 339 t_Mo_begin_339 := dk_go 1 a_Mo_begin_338 rfl
theorem a_Mo_begin_342 : dk_at b_Mo_begin 342 t_Mo_begin_342 := dk_go 3 a_Mo_begin_339 rfl
theorem a_Mo_begin_343 : dk_at b_Mo_begin 343 t_Mo_begin_343 := dk_go 1 a_Mo_begin_342 rfl
theorem a_Mo_begin_344 : dk_at b_Mo_begin 344 t_Mo_begin_344 := dk_go 1 a_Mo_begin_343 rfl
theorem a_Mo_begin_347 : dk_at b_Mo_begin 347 t_Mo_begin_347 := dk_go 3 a_Mo_begin_344 rfl
theorem a_Mo_begin_349 : dk_at b_Mo_begin 349 t_Mo_begin_349 := dk_go 2 a_Mo_begin_347 rfl
theorem a_Mo_begin_352 : dk_at b_Mo_begin 352 t_Mo_begin_352 := dk_go 3 a_Mo_begin_349 rfl
theorem a_Mo_begin_353 : dk_at b_Mo_begin 353 t_Mo_begin_353 := dk_go 1 a_Mo_begin_352 rfl
theorem a_Mo_begin_356 : dk_at b_Mo_begin 356 t_Mo_begin_356 := dk_go 3 a_Mo_begin_353 rfl
theorem a_Mo_begin_358 : dk_at b_Mo_begin 358 t_Mo_begin_358 := dk_go 2 a_Mo_begin_356 rfl
theorem a_Mo_begin_359 : dk_at b_Mo_begin 359 t_Mo_begin_359 := dk_go 1 a_Mo_begin_358 rfl
theorem a_Mo_begin_360 : dk_at b_Mo_begin 360 t_Mo_begin_360 := dk_go 1 a_Mo_begin_359 rfl
theorem a_Mo_begin_363 : dk_at b_Mo_begin 363 t_Mo_begin_363 := dk_go 3 a_Mo_begin_360 rfl
theorem a_Mo_begin_364 : dk_at b_Mo_begin 364 t_Mo_begin_364 := dk_go 1 a_Mo_begin_363 rfl
theorem a_Mo_begin_366 : dk_at b_Mo_begin 366 t_Mo_begin_366 := dk_go 2 a_Mo_begin_364 rfl
theorem a_Mo_begin_369 : dk_at b_Mo_begin 369 t_Mo_begin_369 := dk_go 3 a_Mo_begin_366 rfl
theorem a_Mo_begin_370 : dk_at b_Mo_begin 370 t_Mo_begin_370 := dk_go 1 a_Mo_begin_369 rfl
theorem a_Mo_begin_373 : dk_at b_Mo_begin 373 t_Mo_begin_373 := dk_go 3 a_Mo_begin_370 rfl
theorem a_Mo_begin_374 : dk_at b_Mo_begin 374 t_Mo_begin_374 := dk_go 1 a_Mo_begin_373 rfl
theorem a_Mo_begin_376 : dk_at b_Mo_begin 376 t_Mo_begin_376 := dk_go 2 a_Mo_begin_374 rfl
theorem a_Mo_begin_377 : dk_at b_Mo_begin 377 t_Mo_begin_377 := dk_go 1 a_Mo_begin_376 rfl
theorem a_Mo_begin_378 : dk_at b_Mo_begin 378 t_Mo_begin_378 := dk_go 1 a_Mo_begin_377 rfl
theorem a_Mo_begin_381 : dk_at b_Mo_begin 381 t_Mo_begin_381 := dk_go 3 a_Mo_begin_378 rfl
theorem a_Mo_begin_382 : dk_at b_Mo_begin 382 t_Mo_begin_382 := dk_go 1 a_Mo_begin_381 rfl
theorem a_Mo_begin_385 : dk_at b_Mo_begin 385 t_Mo_begin_385 := dk_go 3 a_Mo_begin_382 rfl
theorem a_Mo_begin_386 : dk_at b_Mo_begin 386 t_Mo_begin_386 := dk_go 1 a_Mo_begin_385 rfl
theorem a_Mo_begin_387 : dk_at b_Mo_begin 387 t_Mo_begin_387 := dk_go 1 a_Mo_begin_386 rfl
theorem a_Mo_begin_390 : dk_at b_Mo_begin 390 t_Mo_begin_390 := dk_go 3 a_Mo_begin_387 rfl
theorem a_Mo_begin_391 : dk_at b_Mo_begin 391 t_Mo_begin_391 := dk_go 1 a_Mo_begin_390 rfl
theorem a_Mo_begin_393 : dk_at b_Mo_begin 393 t_Mo_begin_393 := dk_go 2 a_Mo_begin_391 rfl
theorem a_Mo_begin_396 : dk_at b_Mo_begin 396 t_Mo_begin_396 := dk_go 3 a_Mo_begin_393 rfl
theorem a_Mo_begin_397 : dk_at b_Mo_begin 397 t_Mo_begin_397 := dk_go 1 a_Mo_begin_396 rfl
theorem a_Mo_begin_400 : dk_at b_Mo_begin 400 t_Mo_begin_400 := dk_go 3 a_Mo_begin_397 rfl
theorem a_Mo_begin_401 : dk_at b_Mo_begin 401 t_Mo_begin_401 := dk_go 1 a_Mo_begin_400 rfl
theorem a_Mo_begin_403 : dk_at b_Mo_begin 403 t_Mo_begin_403 := dk_go 2 a_Mo_begin_401 rfl
theorem a_Mo_begin_404 : dk_at b_Mo_begin 404 t_Mo_begin_404 := dk_go 1 a_Mo_begin_403 rfl
theorem a_Mo_begin_405 : dk_at b_Mo_begin 405 t_Mo_begin_405 := dk_go 1 a_Mo_begin_404 rfl
theorem a_Mo_begin_408 : dk_at b_Mo_begin 408 t_Mo_begin_408 := dk_go 3 a_Mo_begin_405 rfl
theorem a_Mo_begin_409 : dk_at b_Mo_begin 409 t_Mo_begin_409 := dk_go 1 a_Mo_begin_408 rfl
theorem a_Mo_begin_412 : dk_at b_Mo_begin 412 t_Mo_begin_412 := dk_go 3 a_Mo_begin_409 rfl
theorem a_Mo_begin_413 : dk_at b_Mo_begin 413 t_Mo_begin_413 := dk_go 1 a_Mo_begin_412 rfl
theorem a_Mo_begin_414 : dk_at b_Mo_begin 414 t_Mo_begin_414 := dk_go 1 a_Mo_begin_413 rfl
theorem a_Mo_begin_417 : dk_at b_Mo_begin 417 t_Mo_begin_417 := dk_go 3 a_Mo_begin_414 rfl
theorem a_Mo_begin_418 : dk_at b_Mo_begin 418 t_Mo_begin_418 := dk_go 1 a_Mo_begin_417 rfl
theorem a_Mo_begin_421 : dk_at b_Mo_begin 421 t_Mo_begin_421 := dk_go 3 a_Mo_begin_418 rfl
theorem a_Mo_begin_422 : dk_at b_Mo_begin 422 t_Mo_begin_422 := dk_go 1 a_Mo_begin_421 rfl
theorem a_Mo_begin_425 : dk_at b_Mo_begin 425 t_Mo_begin_425 := dk_go 3 a_Mo_begin_422 rfl
theorem a_Mo_begin_426 : dk_at b_Mo_begin 426 t_Mo_begin_426 := dk_go 1 a_Mo_begin_425 rfl
theorem a_Mo_begin_427 : dk_at b_Mo_begin 427 t_Mo_begin_427 := dk_go 1 a_Mo_begin_426 rfl
theorem a_Mo_begin_428 : dk_at b_Mo_begin 428 t_Mo_begin_428 := dk_go 1 a_Mo_begin_427 rfl
theorem a_Mo_begin_429 : dk_at b_Mo_begin 429 t_Mo_begin_429 := dk_go 1 a_Mo_begin_428 rfl
theorem a_Mo_begin_432 : dk_at b_Mo_begin 432 t_Mo_begin_432 := dk_go 3 a_Mo_begin_429 rfl
theorem a_Mo_begin_433 : dk_at b_Mo_begin 433 t_Mo_begin_433 := dk_go 1 a_Mo_begin_432 rfl
theorem a_Mo_begin_435 : dk_at b_Mo_begin 435 t_Mo_begin_435 := dk_go 2 a_Mo_begin_433 rfl
theorem a_Mo_begin_438 : dk_at b_Mo_begin 438 t_Mo_begin_438 := dk_go 3 a_Mo_begin_435 rfl
theorem a_Mo_begin_439 : dk_at b_Mo_begin 439 t_Mo_begin_439 := dk_go 1 a_Mo_begin_438 rfl
theorem a_Mo_begin_442 : dk_at b_Mo_begin 442 t_Mo_begin_442 := dk_go 3 a_Mo_begin_439 rfl
theorem a_Mo_begin_443 : dk_at b_Mo_begin 443 t_Mo_begin_443 := dk_go 1 a_Mo_begin_442 rfl
theorem a_Mo_begin_445 : dk_at b_Mo_begin 445 t_Mo_begin_445 := dk_go 2 a_Mo_begin_443 rfl
theorem a_Mo_begin_446 : dk_at b_Mo_begin 446 t_Mo_begin_446 := dk_go 1 a_Mo_begin_445 rfl
theorem a_Mo_begin_447 : dk_at b_Mo_begin 447 t_Mo_begin_447 := dk_go 1 a_Mo_begin_446 rfl
theorem a_Mo_begin_450 : dk_at b_Mo_begin 450 t_Mo_begin_450 := dk_go 3 a_Mo_begin_447 rfl
theorem a_Mo_begin_451 : dk_at b_Mo_begin 451 t_Mo_begin_451 := dk_go 1 a_Mo_begin_450 rfl
theorem a_Mo_begin_454 : dk_at b_Mo_begin 454 t_Mo_begin_454 := dk_go 3 a_Mo_begin_451 rfl
theorem a_Mo_begin_455 : dk_at b_Mo_begin 455 t_Mo_begin_455 := dk_go 1 a_Mo_begin_454 rfl
theorem a_Mo_begin_456 : dk_at b_Mo_begin 456 t_Mo_begin_456 := dk_go 1 a_Mo_begin_455 rfl
theorem a_Mo_begin_459 : dk_at b_Mo_begin 459 t_Mo_begin_459 := dk_go 3 a_Mo_begin_456 rfl
theorem a_Mo_begin_460 : dk_at b_Mo_begin 460 t_Mo_begin_460 := dk_go 1 a_Mo_begin_459 rfl
theorem a_Mo_begin_463 : dk_at b_Mo_begin 463 t_Mo_begin_463 := dk_go 3 a_Mo_begin_460 rfl
theorem a_Mo_begin_464 : dk_at b_Mo_begin 464 t_Mo_begin_464 := dk_go 1 a_Mo_begin_463 rfl
theorem a_Mo_begin_467 : dk_at b_Mo_begin 467 t_Mo_begin_467 := dk_go 3 a_Mo_begin_464 rfl
theorem a_Mo_begin_468 : dk_at b_Mo_begin 468 t_Mo_begin_468 := dk_go 1 a_Mo_begin_467 rfl
theorem a_Mo_begin_469 : dk_at b_Mo_begin 469 t_Mo_begin_469 := dk_go 1 a_Mo_begin_468 rfl
theorem a_Mo_begin_470 : dk_at b_Mo_begin 470 t_Mo_begin_470 := dk_go 1 a_Mo_begin_469 rfl
theorem a_Mo_begin_471 : dk_at b_Mo_begin 471 t_Mo_begin_471 := dk_go 1 a_Mo_begin_470 rfl
theorem a_Mo_begin_473 : dk_at b_Mo_begin 473 t_Mo_begin_473 := dk_go 2 a_Mo_begin_471 rfl
theorem a_Mo_begin_474 : dk_at b_Mo_begin 474 t_Mo_begin_474 := dk_go 1 a_Mo_begin_473 rfl
theorem a_Mo_begin_475 : dk_at b_Mo_begin 475 t_Mo_begin_475 := dk_go 1 a_Mo_begin_474 rfl
theorem a_Mo_begin_478 : dk_at b_Mo_begin 478 t_Mo_begin_478 := dk_go 3 a_Mo_begin_475 rfl
theorem a_Mo_begin_479 : dk_at b_Mo_begin 479 t_Mo_begin_479 := dk_go 1 a_Mo_begin_478 rfl
theorem a_Mo_begin_480 : dk_at b_Mo_begin 480 t_Mo_begin_480 := dk_go 1 a_Mo_begin_479 rfl
theorem a_Mo_begin_481 : dk_at b_Mo_begin 481 t_Mo_begin_481 := dk_go 1 a_Mo_begin_480 rfl
theorem a_Mo_begin_484 : dk_at b_Mo_begin 484 t_Mo_begin_484 := dk_go 3 a_Mo_begin_481 rfl
theorem a_Mo_begin_487 : dk_at b_Mo_begin 487 t_Mo_begin_487 := dk_go 3 a_Mo_begin_484 rfl
theorem a_Mo_begin_488 : dk_at b_Mo_begin 488 t_Mo_begin_488 := dk_go 1 a_Mo_begin_487 rfl
theorem a_Mo_begin_490 : dk_at b_Mo_begin 490 t_Mo_begin_490 := dk_go 2 a_Mo_begin_488 rfl
theorem a_Mo_begin_493 : dk_at b_Mo_begin 493 t_Mo_begin_493 := dk_go 3 a_Mo_begin_490 rfl
theorem a_Mo_begin_494 : dk_at b_Mo_begin 494 t_Mo_begin_494 := dk_go 1 a_Mo_begin_493 rfl
theorem a_Mo_begin_495 : dk_at b_Mo_begin 495 t_Mo_begin_495 := dk_go 1 a_Mo_begin_494 rfl
theorem a_Mo_begin_498 : dk_at b_Mo_begin 498 t_Mo_begin_498 := dk_go 3 a_Mo_begin_495 rfl
theorem a_Mo_begin_501 : dk_at b_Mo_begin 501 t_Mo_begin_501 := dk_go 3 a_Mo_begin_498 rfl
theorem a_Mo_begin_502 : dk_at b_Mo_begin 502 t_Mo_begin_502 := dk_go 1 a_Mo_begin_501 rfl
theorem a_Mo_begin_504 : dk_at b_Mo_begin 504 t_Mo_begin_504 := dk_go 2 a_Mo_begin_502 rfl
theorem a_Mo_begin_507 : dk_at b_Mo_begin 507 t_Mo_begin_507 := dk_go 3 a_Mo_begin_504 rfl
theorem a_Mo_begin_508 : dk_at b_Mo_begin 508 t_Mo_begin_508 := dk_go 1 a_Mo_begin_507 rfl
theorem a_Mo_begin_510 : dk_at b_Mo_begin 510 t_Mo_begin_510 := dk_go 2 a_Mo_begin_508 rfl
theorem a_Mo_begin_513 : dk_at b_Mo_begin 513 t_Mo_begin_513 := dk_go 3 a_Mo_begin_510 rfl
theorem a_Mo_begin_515 : dk_at b_Mo_begin 515 t_Mo_begin_515 := dk_go 2 a_Mo_begin_513 rfl
theorem a_Mo_begin_517 : dk_at b_Mo_begin 517 t_Mo_begin_517 := dk_go 2 a_Mo_begin_515 rfl
theorem a_Mo_begin_520 : dk_at b_Mo_begin 520 t_Mo_begin_520 := dk_go 3 a_Mo_begin_517 rfl
theorem a_Mo_begin_521 : dk_at b_Mo_begin 521 t_Mo_begin_521 := dk_go 1 a_Mo_begin_520 rfl
theorem a_Mo_begin_522 : dk_at b_Mo_begin 522 t_Mo_begin_522 := dk_go 1 a_Mo_begin_521 rfl
theorem a_Mo_begin_524 : dk_at b_Mo_begin 524 t_Mo_begin_524 := dk_go 2 a_Mo_begin_522 rfl
theorem a_Mo_begin_526 : dk_at b_Mo_begin 526 t_Mo_begin_526 := dk_go 2 a_Mo_begin_524 rfl
theorem a_Mo_begin_527 : dk_at b_Mo_begin 527 t_Mo_begin_527 := dk_go 1 a_Mo_begin_526 rfl
theorem a_Mo_begin_530 : dk_at b_Mo_begin 530 t_Mo_begin_530 := dk_go 3 a_Mo_begin_527 rfl
theorem a_Mo_begin_531 : dk_at b_Mo_begin 531 t_Mo_begin_531 := dk_go 1 a_Mo_begin_530 rfl
theorem a_Mo_begin_534 : dk_at b_Mo_begin 534 t_Mo_begin_534 := dk_go 3 a_Mo_begin_531 rfl
theorem a_Mo_begin_535 : dk_at b_Mo_begin 535 t_Mo_begin_535 := dk_go 1 a_Mo_begin_534 rfl
theorem a_Mo_begin_536 : dk_at b_Mo_begin 536 t_Mo_begin_536 := dk_go 1 a_Mo_begin_535 rfl
theorem a_Mo_begin_538 : dk_at b_Mo_begin 538 t_Mo_begin_538 := dk_go 2 a_Mo_begin_536 rfl
theorem a_Mo_begin_540 : dk_at b_Mo_begin 540 t_Mo_begin_540 := dk_go 2 a_Mo_begin_538 rfl
theorem a_Mo_begin_541 : dk_at b_Mo_begin 541 t_Mo_begin_541 := dk_go 1 a_Mo_begin_540 rfl
theorem a_Mo_begin_544 : dk_at b_Mo_begin 544 t_Mo_begin_544 := dk_go 3 a_Mo_begin_541 rfl
theorem a_Mo_begin_545 : dk_at b_Mo_begin 545 t_Mo_begin_545 := dk_go 1 a_Mo_begin_544 rfl
theorem a_Mo_begin_548 : dk_at b_Mo_begin 548 t_Mo_begin_548 := dk_go 3 a_Mo_begin_545 rfl
theorem a_Mo_begin_550 : dk_at b_Mo_begin 550 t_Mo_begin_550 := dk_go 2 a_Mo_begin_548 rfl
theorem a_Mo_begin_551 : dk_at b_Mo_begin 551 t_Mo_begin_551 := dk_go 1 a_Mo_begin_550 rfl
theorem a_Mo_begin_552 : dk_at b_Mo_begin 552 t_Mo_begin_552 := dk_go 1 a_Mo_begin_551 rfl
theorem a_Mo_begin_553 : dk_at b_Mo_begin 553 t_Mo_begin_553 := dk_go 1 a_Mo_begin_552 rfl
theorem a_Mo_begin_556 : dk_at b_Mo_begin 556 t_Mo_begin_556 := dk_go 3 a_Mo_begin_553 rfl
theorem a_Mo_begin_558 : dk_at b_Mo_begin 558 t_Mo_begin_558 := dk_go 2 a_Mo_begin_556 rfl
theorem a_Mo_begin_559 : dk_at b_Mo_begin 559 t_Mo_begin_559 := dk_go 1 a_Mo_begin_558 rfl
theorem a_Mo_begin_560 : dk_at b_Mo_begin 560 t_Mo_begin_560 := dk_go 1 a_Mo_begin_559 rfl
theorem a_Mo_begin_561 : dk_at b_Mo_begin 561 t_Mo_begin_561 := dk_go 1 a_Mo_begin_560 rfl
theorem a_Mo_begin_564 : dk_at b_Mo_begin 564 t_Mo_begin_564 := dk_go 3 a_Mo_begin_561 rfl
theorem a_Mo_begin_566 : dk_at b_Mo_begin 566 t_Mo_begin_566 := dk_go 2 a_Mo_begin_564 rfl
theorem a_Mo_begin_567 : dk_at b_Mo_begin 567 t_Mo_begin_567 := dk_go 1 a_Mo_begin_566 rfl
theorem a_Mo_begin_569 : dk_at b_Mo_begin 569 t_Mo_begin_569 := dk_go 2 a_Mo_begin_567 rfl
theorem a_Mo_begin_572 : dk_at b_Mo_begin 572 t_Mo_begin_572 := dk_go 3 a_Mo_begin_569 rfl
theorem a_Mo_begin_573 : dk_at b_Mo_begin 573 t_Mo_begin_573 := dk_go 1 a_Mo_begin_572 rfl
theorem d_Mo_begin_0 : decode b_Mo_begin 0 = .ok (.aload_n 0, 1) := dk_0 a_Mo_begin_0 (dko_42 _)
theorem d_Mo_begin_1 : decode b_Mo_begin 1 = .ok (.getfield 166, 3) := dk_U2 a_Mo_begin_1 (dko_180 _) rfl
theorem d_Mo_begin_4 : decode b_Mo_begin 4 = .ok (.iload_n 1, 1) := dk_0 a_Mo_begin_4 (dko_27 _)
theorem d_Mo_begin_5 : decode b_Mo_begin 5 = .ok (.iaload, 1) := dk_0 a_Mo_begin_5 (dko_46 _)
theorem d_Mo_begin_6 : decode b_Mo_begin 6 = .ok (.istore_n 2, 1) := dk_0 a_Mo_begin_6 (dko_61 _)
theorem d_Mo_begin_7 : decode b_Mo_begin 7 = .ok (.aload_n 0, 1) := dk_0 a_Mo_begin_7 (dko_42 _)
theorem d_Mo_begin_8 : decode b_Mo_begin 8 = .ok (.iload_n 1, 1) := dk_0 a_Mo_begin_8 (dko_27 _)
theorem d_Mo_begin_9 : decode b_Mo_begin 9 = .ok (.invokevirtual 526, 3) := dk_U2 a_Mo_begin_9 (dko_182 _) rfl
theorem d_Mo_begin_12 : decode b_Mo_begin 12 = .ok (.istore_n 3, 1) := dk_0 a_Mo_begin_12 (dko_62 _)
theorem d_Mo_begin_13 : decode b_Mo_begin 13 = .ok (.aload_n 0, 1) := dk_0 a_Mo_begin_13 (dko_42 _)
theorem d_Mo_begin_14 : decode b_Mo_begin 14 = .ok (.getfield 529, 3) := dk_U2 a_Mo_begin_14 (dko_180 _) rfl
theorem d_Mo_begin_17 : decode b_Mo_begin 17 = .ok (.sipush 1000, 3) := dk_S2 a_Mo_begin_17 (dko_17 _) (by decide +kernel)
theorem d_Mo_begin_20 : decode b_Mo_begin 20 = .ok (.if_icmp .eq 18, 3) := dk_S2 a_Mo_begin_20 (dko_159 _) (by decide +kernel)
theorem d_Mo_begin_23 : decode b_Mo_begin 23 = .ok (.iload_n 3, 1) := dk_0 a_Mo_begin_23 (dko_29 _)
theorem d_Mo_begin_24 : decode b_Mo_begin 24 = .ok (.bipush 22, 2) := dk_S1 a_Mo_begin_24 (dko_16 _) (by decide +kernel)
theorem d_Mo_begin_26 : decode b_Mo_begin 26 = .ok (.if_icmp .ne 20, 3) := dk_S2 a_Mo_begin_26 (dko_160 _) (by decide +kernel)
theorem d_Mo_begin_29 : decode b_Mo_begin 29 = .ok (.aload_n 0, 1) := dk_0 a_Mo_begin_29 (dko_42 _)
theorem d_Mo_begin_30 : decode b_Mo_begin 30 = .ok (.getfield 532, 3) := dk_U2 a_Mo_begin_30 (dko_180 _) rfl
theorem d_Mo_begin_33 : decode b_Mo_begin 33 = .ok (.bipush 10, 2) := dk_S1 a_Mo_begin_33 (dko_16 _) (by decide +kernel)
theorem d_Mo_begin_35 : decode b_Mo_begin 35 = .ok (.if_icmp .ne 11, 3) := dk_S2 a_Mo_begin_35 (dko_160 _) (by decide +kernel)
theorem d_Mo_begin_38 : decode b_Mo_begin 38 = .ok (.aload_n 0, 1) := dk_0 a_Mo_begin_38 (dko_42 _)
theorem d_Mo_begin_39 : decode b_Mo_begin 39 = .ok (.iload_n 2, 1) := dk_0 a_Mo_begin_39 (dko_28 _)
theorem d_Mo_begin_40 : decode b_Mo_begin 40 = .ok (.iconst 2, 1) := dk_0 a_Mo_begin_40 (dko_5 _)
theorem d_Mo_begin_41 : decode b_Mo_begin 41 = .ok (.invokevirtual 439, 3) := dk_U2 a_Mo_begin_41 (dko_182 _) rfl
theorem d_Mo_begin_44 : decode b_Mo_begin 44 = .ok (.iconst 0, 1) := dk_0 a_Mo_begin_44 (dko_3 _)
theorem d_Mo_begin_45 : decode b_Mo_begin 45 = .ok (.ireturn, 1) := dk_0 a_Mo_begin_45 (dko_172 _)
theorem d_Mo_begin_46 : decode b_Mo_begin 46 = .ok (.aload_n 0, 1) := dk_0 a_Mo_begin_46 (dko_42 _)
theorem d_Mo_begin_47 : decode b_Mo_begin 47 = .ok (.dup, 1) := dk_0 a_Mo_begin_47 (dko_89 _)
theorem d_Mo_begin_48 : decode b_Mo_begin 48 = .ok (.getfield 529, 3) := dk_U2 a_Mo_begin_48 (dko_180 _) rfl
theorem d_Mo_begin_51 : decode b_Mo_begin 51 = .ok (.iconst 1, 1) := dk_0 a_Mo_begin_51 (dko_4 _)
theorem d_Mo_begin_52 : decode b_Mo_begin 52 = .ok (.iadd, 1) := dk_0 a_Mo_begin_52 (dko_96 _)
theorem d_Mo_begin_53 : decode b_Mo_begin 53 = .ok (.putfield 529, 3) := dk_U2 a_Mo_begin_53 (dko_181 _) rfl
theorem d_Mo_begin_56 : decode b_Mo_begin 56 = .ok (.aload_n 0, 1) := dk_0 a_Mo_begin_56 (dko_42 _)
theorem d_Mo_begin_57 : decode b_Mo_begin 57 = .ok (.dup, 1) := dk_0 a_Mo_begin_57 (dko_89 _)
theorem d_Mo_begin_58 : decode b_Mo_begin 58 = .ok (.getfield 532, 3) := dk_U2 a_Mo_begin_58 (dko_180 _) rfl
theorem d_Mo_begin_61 : decode b_Mo_begin 61 = .ok (.iload_n 3, 1) := dk_0 a_Mo_begin_61 (dko_29 _)
theorem d_Mo_begin_62 : decode b_Mo_begin 62 = .ok (.bipush 22, 2) := dk_S1 a_Mo_begin_62 (dko_16 _) (by decide +kernel)
theorem d_Mo_begin_64 : decode b_Mo_begin 64 = .ok (.if_icmp .ne 7, 3) := dk_S2 a_Mo_begin_64 (dko_160 _) (by decide +kernel)
theorem d_Mo_begin_67 : decode b_Mo_begin 67 = .ok (.iconst 1, 1) := dk_0 a_Mo_begin_67 (dko_4 _)
theorem d_Mo_begin_68 : decode b_Mo_begin 68 = .ok (.goto 4, 3) := dk_S2 a_Mo_begin_68 (dko_167 _) (by decide +kernel)
theorem d_Mo_begin_71 : decode b_Mo_begin 71 = .ok (.iconst 0, 1) := dk_0 a_Mo_begin_71 (dko_3 _)
theorem d_Mo_begin_72 : decode b_Mo_begin 72 = .ok (.iadd, 1) := dk_0 a_Mo_begin_72 (dko_96 _)
theorem d_Mo_begin_73 : decode b_Mo_begin 73 = .ok (.putfield 532, 3) := dk_U2 a_Mo_begin_73 (dko_181 _) rfl
theorem d_Mo_begin_76 : decode b_Mo_begin 76 = .ok (.aload_n 0, 1) := dk_0 a_Mo_begin_76 (dko_42 _)
theorem d_Mo_begin_77 : decode b_Mo_begin 77 = .ok (.getfield 16, 3) := dk_U2 a_Mo_begin_77 (dko_180 _) rfl
theorem d_Mo_begin_80 : decode b_Mo_begin 80 = .ok (.iload_n 2, 1) := dk_0 a_Mo_begin_80 (dko_28 _)
theorem d_Mo_begin_81 : decode b_Mo_begin 81 = .ok (.invokevirtual 487, 3) := dk_U2 a_Mo_begin_81 (dko_182 _) rfl
theorem d_Mo_begin_84 : decode b_Mo_begin 84 = .ok (.istore 4, 2) := dk_U1 a_Mo_begin_84 (dko_54 _) rfl
theorem d_Mo_begin_86 : decode b_Mo_begin 86 = .ok (.iload_n 3, 1) := dk_0 a_Mo_begin_86 (dko_29 _)
theorem d_Mo_begin_87 : decode b_Mo_begin 87 = .ok (.bipush 10, 2) := dk_S1 a_Mo_begin_87 (dko_16 _) (by decide +kernel)
theorem d_Mo_begin_89 : decode b_Mo_begin 89 = .ok (.if_icmp .eq 39, 3) := dk_S2 a_Mo_begin_89 (dko_159 _) (by decide +kernel)
theorem d_Mo_begin_92 : decode b_Mo_begin 92 = .ok (.iload_n 3, 1) := dk_0 a_Mo_begin_92 (dko_29 _)
theorem d_Mo_begin_93 : decode b_Mo_begin 93 = .ok (.bipush 11, 2) := dk_S1 a_Mo_begin_93 (dko_16 _) (by decide +kernel)
theorem d_Mo_begin_95 : decode b_Mo_begin 95 = .ok (.if_icmp .eq 33, 3) := dk_S2 a_Mo_begin_95 (dko_159 _) (by decide +kernel)
theorem d_Mo_begin_98 : decode b_Mo_begin 98 = .ok (.iload_n 3, 1) := dk_0 a_Mo_begin_98 (dko_29 _)
theorem d_Mo_begin_99 : decode b_Mo_begin 99 = .ok (.bipush 12, 2) := dk_S1 a_Mo_begin_99 (dko_16 _) (by decide +kernel)
theorem d_Mo_begin_101 : decode b_Mo_begin 101 = .ok (.if_icmp .eq 27, 3) := dk_S2 a_Mo_begin_101 (dko_159 _) (by decide +kernel)
theorem d_Mo_begin_104 : decode b_Mo_begin 104 = .ok (.iload_n 3, 1) := dk_0 a_Mo_begin_104 (dko_29 _)
theorem d_Mo_begin_105 : decode b_Mo_begin 105 = .ok (.bipush 15, 2) := dk_S1 a_Mo_begin_105 (dko_16 _) (by decide +kernel)
theorem d_Mo_begin_107 : decode b_Mo_begin 107 = .ok (.if_icmp .eq 21, 3) := dk_S2 a_Mo_begin_107 (dko_159 _) (by decide +kernel)
theorem d_Mo_begin_110 : decode b_Mo_begin 110 = .ok (.iload_n 3, 1) := dk_0 a_Mo_begin_110 (dko_29 _)
theorem d_Mo_begin_111 : decode b_Mo_begin 111 = .ok (.bipush 16, 2) := dk_S1 a_Mo_begin_111 (dko_16 _) (by decide +kernel)
theorem d_Mo_begin_113 : decode b_Mo_begin 113 = .ok (.if_icmp .eq 15, 3) := dk_S2 a_Mo_begin_113 (dko_159 _) (by decide +kernel)
theorem d_Mo_begin_116 : decode b_Mo_begin 116 = .ok (.iload_n 3, 1) := dk_0 a_Mo_begin_116 (dko_29 _)
theorem d_Mo_begin_117 : decode b_Mo_begin 117 = .ok (.bipush 17, 2) := dk_S1 a_Mo_begin_117 (dko_16 _) (by decide +kernel)
theorem d_Mo_begin_119 : decode b_Mo_begin 119 = .ok (.if_icmp .eq 9, 3) := dk_S2 a_Mo_begin_119 (dko_159 _) (by decide +kernel)
theorem d_Mo_begin_122 : decode b_Mo_begin 122 = .ok (.iload_n 3, 1) := dk_0 a_Mo_begin_122 (dko_29 _)
theorem d_Mo_begin_123 : decode b_Mo_begin 123 = .ok (.bipush 13, 2) := dk_S1 a_Mo_begin_123 (dko_16 _) (by decide +kernel)
theorem d_Mo_begin_125 : decode b_Mo_begin 125 = .ok (.if_icmp .ne 7, 3) := dk_S2 a_Mo_begin_125 (dko_160 _) (by decide +kernel)
theorem d_Mo_begin_128 : decode b_Mo_begin 128 = .ok (.iconst 1, 1) := dk_0 a_Mo_begin_128 (dko_4 _)
theorem d_Mo_begin_129 : decode b_Mo_begin 129 = .ok (.goto 4, 3) := dk_S2 a_Mo_begin_129 (dko_167 _) (by decide +kernel)
theorem d_Mo_begin_132 : decode b_Mo_begin 132 = .ok (.iconst 0, 1) := dk_0 a_Mo_begin_132 (dko_3 _)
theorem d_Mo_begin_133 : decode b_Mo_begin 133 = .ok (.istore 5, 2) := dk_U1 a_Mo_begin_133 (dko_54 _) rfl
theorem d_Mo_begin_135 : decode b_Mo_begin 135 = .ok (.iload 5, 2) := dk_U1 a_Mo_begin_135 (dko_21 _) rfl
theorem d_Mo_begin_137 : decode b_Mo_begin 137 = .ok (.ifCond .eq 19, 3) := dk_S2 a_Mo_begin_137 (dko_153 _) (by decide +kernel)
theorem d_Mo_begin_140 : decode b_Mo_begin 140 = .ok (.aload_n 0, 1) := dk_0 a_Mo_begin_140 (dko_42 _)
theorem d_Mo_begin_141 : decode b_Mo_begin 141 = .ok (.aload_n 0, 1) := dk_0 a_Mo_begin_141 (dko_42 _)
theorem d_Mo_begin_142 : decode b_Mo_begin 142 = .ok (.getfield 16, 3) := dk_U2 a_Mo_begin_142 (dko_180 _) rfl
theorem d_Mo_begin_145 : decode b_Mo_begin 145 = .ok (.iload_n 2, 1) := dk_0 a_Mo_begin_145 (dko_28 _)
theorem d_Mo_begin_146 : decode b_Mo_begin 146 = .ok (.iconst 0, 1) := dk_0 a_Mo_begin_146 (dko_3 _)
theorem d_Mo_begin_147 : decode b_Mo_begin 147 = .ok (.invokevirtual 502, 3) := dk_U2 a_Mo_begin_147 (dko_182 _) rfl
theorem d_Mo_begin_150 : decode b_Mo_begin 150 = .ok (.invokevirtual 523, 3) := dk_U2 a_Mo_begin_150 (dko_182 _) rfl
theorem d_Mo_begin_153 : decode b_Mo_begin 153 = .ok (.goto 4, 3) := dk_S2 a_Mo_begin_153 (dko_167 _) (by decide +kernel)
theorem d_Mo_begin_156 : decode b_Mo_begin 156 = .ok (.lconst 0, 1) := dk_0 a_Mo_begin_156 (dko_9 _)
theorem d_Mo_begin_157 : decode b_Mo_begin 157 = .ok (.lstore 6, 2) := dk_U1 a_Mo_begin_157 (dko_55 _) rfl
theorem d_Mo_begin_159 : decode b_Mo_begin 159 = .ok (.iload_n 3, 1) := dk_0 a_Mo_begin_159 (dko_29 _)
theorem d_Mo_begin_160 : decode b_Mo_begin 160 = .ok (.bipush 13, 2) := dk_S1 a_Mo_begin_160 (dko_16 _) (by decide +kernel)
theorem d_Mo_begin_162 : decode b_Mo_begin 162 = .ok (.if_icmp .ne 19, 3) := dk_S2 a_Mo_begin_162 (dko_160 _) (by decide +kernel)
theorem d_Mo_begin_165 : decode b_Mo_begin 165 = .ok (.aload_n 0, 1) := dk_0 a_Mo_begin_165 (dko_42 _)
theorem d_Mo_begin_166 : decode b_Mo_begin 166 = .ok (.aload_n 0, 1) := dk_0 a_Mo_begin_166 (dko_42 _)
theorem d_Mo_begin_167 : decode b_Mo_begin 167 = .ok (.getfield 16, 3) := dk_U2 a_Mo_begin_167 (dko_180 _) rfl
theorem d_Mo_begin_170 : decode b_Mo_begin 170 = .ok (.iload_n 2, 1) := dk_0 a_Mo_begin_170 (dko_28 _)
theorem d_Mo_begin_171 : decode b_Mo_begin 171 = .ok (.iconst 1, 1) := dk_0 a_Mo_begin_171 (dko_4 _)
theorem d_Mo_begin_172 : decode b_Mo_begin 172 = .ok (.invokevirtual 502, 3) := dk_U2 a_Mo_begin_172 (dko_182 _) rfl
theorem d_Mo_begin_175 : decode b_Mo_begin 175 = .ok (.invokevirtual 523, 3) := dk_U2 a_Mo_begin_175 (dko_182 _) rfl
theorem d_Mo_begin_178 : decode b_Mo_begin 178 = .ok (.goto 4, 3) := dk_S2 a_Mo_begin_178 (dko_167 _) (by decide +kernel)
theorem d_Mo_begin_181 : decode b_Mo_begin 181 = .ok (.lconst 0, 1) := dk_0 a_Mo_begin_181 (dko_9 _)
theorem d_Mo_begin_182 : decode b_Mo_begin 182 = .ok (.lstore 8, 2) := dk_U1 a_Mo_begin_182 (dko_55 _) rfl
theorem d_Mo_begin_184 : decode b_Mo_begin 184 = .ok (.aload_n 0, 1) := dk_0 a_Mo_begin_184 (dko_42 _)
theorem d_Mo_begin_185 : decode b_Mo_begin 185 = .ok (.invokevirtual 535, 3) := dk_U2 a_Mo_begin_185 (dko_182 _) rfl
theorem d_Mo_begin_188 : decode b_Mo_begin 188 = .ok (.ifCond .eq 5, 3) := dk_S2 a_Mo_begin_188 (dko_153 _) (by decide +kernel)
theorem d_Mo_begin_191 : decode b_Mo_begin 191 = .ok (.iconst 0, 1) := dk_0 a_Mo_begin_191 (dko_3 _)
theorem d_Mo_begin_192 : decode b_Mo_begin 192 = .ok (.ireturn, 1) := dk_0 a_Mo_begin_192 (dko_172 _)
theorem d_Mo_begin_193 : decode b_Mo_begin 193 = .ok (.aload_n 0, 1) := dk_0 a_Mo_begin_193 (dko_42 _)
theorem d_Mo_begin_194 : decode b_Mo_begin 194 = .ok (.getfield 175, 3) := dk_U2 a_Mo_begin_194 (dko_180 _) rfl
theorem d_Mo_begin_197 : decode b_Mo_begin 197 = .ok (.iload_n 1, 1) := dk_0 a_Mo_begin_197 (dko_27 _)
theorem d_Mo_begin_198 : decode b_Mo_begin 198 = .ok (.iconst 1, 1) := dk_0 a_Mo_begin_198 (dko_4 _)
theorem d_Mo_begin_199 : decode b_Mo_begin 199 = .ok (.bastore, 1) := dk_0 a_Mo_begin_199 (dko_84 _)
theorem d_Mo_begin_200 : decode b_Mo_begin 200 = .ok (.aload_n 0, 1) := dk_0 a_Mo_begin_200 (dko_42 _)
theorem d_Mo_begin_201 : decode b_Mo_begin 201 = .ok (.getfield 187, 3) := dk_U2 a_Mo_begin_201 (dko_180 _) rfl
theorem d_Mo_begin_204 : decode b_Mo_begin 204 = .ok (.iload_n 1, 1) := dk_0 a_Mo_begin_204 (dko_27 _)
theorem d_Mo_begin_205 : decode b_Mo_begin 205 = .ok (.aload_n 0, 1) := dk_0 a_Mo_begin_205 (dko_42 _)
theorem d_Mo_begin_206 : decode b_Mo_begin 206 = .ok (.getfield 520, 3) := dk_U2 a_Mo_begin_206 (dko_180 _) rfl
theorem d_Mo_begin_209 : decode b_Mo_begin 209 = .ok (.iastore, 1) := dk_0 a_Mo_begin_209 (dko_79 _)
theorem d_Mo_begin_210 : decode b_Mo_begin 210 = .ok (.aload_n 0, 1) := dk_0 a_Mo_begin_210 (dko_42 _)
theorem d_Mo_begin_211 : decode b_Mo_begin 211 = .ok (.getfield 184, 3) := dk_U2 a_Mo_begin_211 (dko_180 _) rfl
theorem d_Mo_begin_214 : decode b_Mo_begin 214 = .ok (.iload_n 1, 1) := dk_0 a_Mo_begin_214 (dko_27 _)
theorem d_Mo_begin_215 : decode b_Mo_begin 215 = .ok (.aload_n 0, 1) := dk_0 a_Mo_begin_215 (dko_42 _)
theorem d_Mo_begin_216 : decode b_Mo_begin 216 = .ok (.getfield 169, 3) := dk_U2 a_Mo_begin_216 (dko_180 _) rfl
theorem d_Mo_begin_219 : decode b_Mo_begin 219 = .ok (.iload_n 1, 1) := dk_0 a_Mo_begin_219 (dko_27 _)
theorem d_Mo_begin_220 : decode b_Mo_begin 220 = .ok (.iaload, 1) := dk_0 a_Mo_begin_220 (dko_46 _)
theorem d_Mo_begin_221 : decode b_Mo_begin 221 = .ok (.iastore, 1) := dk_0 a_Mo_begin_221 (dko_79 _)
theorem d_Mo_begin_222 : decode b_Mo_begin 222 = .ok (.aload_n 0, 1) := dk_0 a_Mo_begin_222 (dko_42 _)
theorem d_Mo_begin_223 : decode b_Mo_begin 223 = .ok (.getfield 193, 3) := dk_U2 a_Mo_begin_223 (dko_180 _) rfl
theorem d_Mo_begin_226 : decode b_Mo_begin 226 = .ok (.iload_n 1, 1) := dk_0 a_Mo_begin_226 (dko_27 _)
theorem d_Mo_begin_227 : decode b_Mo_begin 227 = .ok (.lload 6, 2) := dk_U1 a_Mo_begin_227 (dko_22 _) rfl
theorem d_Mo_begin_229 : decode b_Mo_begin 229 = .ok (.lastore, 1) := dk_0 a_Mo_begin_229 (dko_80 _)
theorem d_Mo_begin_230 : decode b_Mo_begin 230 = .ok (.aload_n 0, 1) := dk_0 a_Mo_begin_230 (dko_42 _)
theorem d_Mo_begin_231 : decode b_Mo_begin 231 = .ok (.getfield 190, 3) := dk_U2 a_Mo_begin_231 (dko_180 _) rfl
theorem d_Mo_begin_234 : decode b_Mo_begin 234 = .ok (.iload_n 1, 1) := dk_0 a_Mo_begin_234 (dko_27 _)
theorem d_Mo_begin_235 : decode b_Mo_begin 235 = .ok (.iload_n 3, 1) := dk_0 a_Mo_begin_235 (dko_29 _)
theorem d_Mo_begin_236 : decode b_Mo_begin 236 = .ok (.bipush 13, 2) := dk_S1 a_Mo_begin_236 (dko_16 _) (by decide +kernel)
theorem d_Mo_begin_238 : decode b_Mo_begin 238 = .ok (.if_icmp .ne 8, 3) := dk_S2 a_Mo_begin_238 (dko_160 _) (by decide +kernel)
theorem d_Mo_begin_241 : decode b_Mo_begin 241 = .ok (.lload 8, 2) := dk_U1 a_Mo_begin_241 (dko_22 _) rfl
theorem d_Mo_begin_243 : decode b_Mo_begin 243 = .ok (.goto 5, 3) := dk_S2 a_Mo_begin_243 (dko_167 _) (by decide +kernel)
theorem d_Mo_begin_246 : decode b_Mo_begin 246 = .ok (.lload 6, 2) := dk_U1 a_Mo_begin_246 (dko_22 _) rfl
theorem d_Mo_begin_248 : decode b_Mo_begin 248 = .ok (.ldc2_w 454, 3) := dk_U2 a_Mo_begin_248 (dko_20 _) rfl
theorem d_Mo_begin_251 : decode b_Mo_begin 251 = .ok (.ldiv, 1) := dk_0 a_Mo_begin_251 (dko_109 _)
theorem d_Mo_begin_252 : decode b_Mo_begin 252 = .ok (.lastore, 1) := dk_0 a_Mo_begin_252 (dko_80 _)
theorem d_Mo_begin_253 : decode b_Mo_begin 253 = .ok (.aload_n 0, 1) := dk_0 a_Mo_begin_253 (dko_42 _)
theorem d_Mo_begin_254 : decode b_Mo_begin 254 = .ok (.getfield 178, 3) := dk_U2 a_Mo_begin_254 (dko_180 _) rfl
theorem d_Mo_begin_257 : decode b_Mo_begin 257 = .ok (.iload_n 1, 1) := dk_0 a_Mo_begin_257 (dko_27 _)
theorem d_Mo_begin_258 : decode b_Mo_begin 258 = .ok (.iconst 0, 1) := dk_0 a_Mo_begin_258 (dko_3 _)
theorem d_Mo_begin_259 : decode b_Mo_begin 259 = .ok (.bastore, 1) := dk_0 a_Mo_begin_259 (dko_84 _)
theorem d_Mo_begin_260 : decode b_Mo_begin 260 = .ok (.aload_n 0, 1) := dk_0 a_Mo_begin_260 (dko_42 _)
theorem d_Mo_begin_261 : decode b_Mo_begin 261 = .ok (.getfield 16, 3) := dk_U2 a_Mo_begin_261 (dko_180 _) rfl
theorem d_Mo_begin_264 : decode b_Mo_begin 264 = .ok (.getfield 499, 3) := dk_U2 a_Mo_begin_264 (dko_180 _) rfl
theorem d_Mo_begin_267 : decode b_Mo_begin 267 = .ok (.iload 4, 2) := dk_U1 a_Mo_begin_267 (dko_21 _) rfl
theorem d_Mo_begin_269 : decode b_Mo_begin 269 = .ok (.laload, 1) := dk_0 a_Mo_begin_269 (dko_47 _)
theorem d_Mo_begin_270 : decode b_Mo_begin 270 = .ok (.l2i, 1) := dk_0 a_Mo_begin_270 (dko_136 _)
theorem d_Mo_begin_271 : decode b_Mo_begin 271 = .ok (.istore 10, 2) := dk_U1 a_Mo_begin_271 (dko_54 _) rfl
theorem d_Mo_begin_273 : decode b_Mo_begin 273 = .ok (.iload_n 3, 1) := dk_0 a_Mo_begin_273 (dko_29 _)
theorem d_Mo_begin_274 : decode b_Mo_begin 274 = .ok (.bipush 10, 2) := dk_S1 a_Mo_begin_274 (dko_16 _) (by decide +kernel)
theorem d_Mo_begin_276 : decode b_Mo_begin 276 = .ok (.if_icmp .ne 15, 3) := dk_S2 a_Mo_begin_276 (dko_160 _) (by decide +kernel)
theorem d_Mo_begin_279 : decode b_Mo_begin 279 = .ok (.aload_n 0, 1) := dk_0 a_Mo_begin_279 (dko_42 _)
theorem d_Mo_begin_280 : decode b_Mo_begin 280 = .ok (.getfield 159, 3) := dk_U2 a_Mo_begin_280 (dko_180 _) rfl
theorem d_Mo_begin_283 : decode b_Mo_begin 283 = .ok (.iload 10, 2) := dk_U1 a_Mo_begin_283 (dko_21 _) rfl
theorem d_Mo_begin_285 : decode b_Mo_begin 285 = .ok (.lload 6, 2) := dk_U1 a_Mo_begin_285 (dko_22 _) rfl
theorem d_Mo_begin_287 : decode b_Mo_begin 287 = .ok (.lastore, 1) := dk_0 a_Mo_begin_287 (dko_80 _)
theorem d_Mo_begin_288 : decode b_Mo_begin 288 = .ok (.goto 242, 3) := dk_S2 a_Mo_begin_288 (dko_167 _) (by decide +kernel)
theorem d_Mo_begin_291 : decode b_Mo_begin 291 = .ok (.iload_n 3, 1) := dk_0 a_Mo_begin_291 (dko_29 _)
theorem d_Mo_begin_292 : decode b_Mo_begin 292 = .ok (.bipush 13, 2) := dk_S1 a_Mo_begin_292 (dko_16 _) (by decide +kernel)
theorem d_Mo_begin_294 : decode b_Mo_begin 294 = .ok (.if_icmp .ne 69, 3) := dk_S2 a_Mo_begin_294 (dko_160 _) (by decide +kernel)
theorem d_Mo_begin_297 : decode b_Mo_begin 297 = .ok (.aload_n 0, 1) := dk_0 a_Mo_begin_297 (dko_42 _)
theorem d_Mo_begin_298 : decode b_Mo_begin 298 = .ok (.getfield 196, 3) := dk_U2 a_Mo_begin_298 (dko_180 _) rfl
theorem d_Mo_begin_301 : decode b_Mo_begin 301 = .ok (.iload_n 1, 1) := dk_0 a_Mo_begin_301 (dko_27 _)
theorem d_Mo_begin_302 : decode b_Mo_begin 302 = .ok (.aload_n 0, 1) := dk_0 a_Mo_begin_302 (dko_42 _)
theorem d_Mo_begin_303 : decode b_Mo_begin 303 = .ok (.getfield 159, 3) := dk_U2 a_Mo_begin_303 (dko_180 _) rfl
theorem d_Mo_begin_306 : decode b_Mo_begin 306 = .ok (.iload 10, 2) := dk_U1 a_Mo_begin_306 (dko_21 _) rfl
theorem d_Mo_begin_308 : decode b_Mo_begin 308 = .ok (.laload, 1) := dk_0 a_Mo_begin_308 (dko_47 _)
theorem d_Mo_begin_309 : decode b_Mo_begin 309 = .ok (.lastore, 1) := dk_0 a_Mo_begin_309 (dko_80 _)
theorem d_Mo_begin_310 : decode b_Mo_begin 310 = .ok (.aload_n 0, 1) := dk_0 a_Mo_begin_310 (dko_42 _)
theorem d_Mo_begin_311 : decode b_Mo_begin 311 = .ok (.getfield 178, 3) := dk_U2 a_Mo_begin_311 (dko_180 _) rfl
theorem d_Mo_begin_314 : decode b_Mo_begin 314 = .ok (.iload_n 1, 1) := dk_0 a_Mo_begin_314 (dko_27 _)
theorem d_Mo_begin_315 : decode b_Mo_begin 315 = .ok (.aload_n 0, 1) := dk_0 a_Mo_begin_315 (dko_42 _)
theorem d_Mo_begin_316 : decode b_Mo_begin 316 = .ok (.getfield 190, 3) := dk_U2 a_Mo_begin_316 (dko_180 _) rfl
theorem d_Mo_begin_319 : decode b_Mo_begin 319 = .ok (.iload_n 1, 1) := dk_0 a_Mo_begin_319 (dko_27 _)
theorem d_Mo_begin_320 : decode b_Mo_begin 320 = .ok (.laload, 1) := dk_0 a_Mo_begin_320 (dko_47 _)
theorem d_Mo_begin_321 : decode b_Mo_begin 321 = .ok (.lconst 1, 1) := dk_0 a_Mo_begin_321 (dko_10 _)
theorem d_Mo_begin_322 : decode b_Mo_begin 322 = .ok (.lcmp, 1) := dk_0 a_Mo_begin_322 (dko_148 _)
theorem d_Mo_begin_323 : decode b_Mo_begin 323 = .ok (.ifCond .ge 7, 3) := dk_S2 a_Mo_begin_323 (dko_156 _) (by decide +kernel)
theorem d_Mo_begin_326 : decode b_Mo_begin 326 = .ok (.iconst 1, 1) := dk_0 a_Mo_begin_326 (dko_4 _)
theorem d_Mo_begin_327 : decode b_Mo_begin 327 = .ok (.goto 4, 3) := dk_S2 a_Mo_begin_327 (dko_167 _) (by decide +kernel)
theorem d_Mo_begin_330 : decode b_Mo_begin 330 = .ok (.iconst 0, 1) := dk_0 a_Mo_begin_330 (dko_3 _)
theorem d_Mo_begin_331 : decode b_Mo_begin 331 = .ok (.bastore, 1) := dk_0 a_Mo_begin_331 (dko_84 _)
theorem d_Mo_begin_332 : decode b_Mo_begin 332 = .ok (.aload_n 0, 1) := dk_0 a_Mo_begin_332 (dko_42 _)
theorem d_Mo_begin_333 : decode b_Mo_begin 333 = .ok (.getfield 159, 3) := dk_U2 a_Mo_begin_333 (dko_180 _) rfl
theorem d_Mo_begin_336 : decode b_Mo_begin 336 = .ok (.iload 10, 2) := dk_U1 a_Mo_begin_336 (dko_21 _) rfl
theorem d_Mo_begin_338 : decode b_Mo_begin 338 = .ok (.aload_n 0, 1) := dk_0 a_Mo_begin_338 (dko_42 _)
theorem d_Mo_begin_339 : decode b_Mo_begin 339 = .ok (.getfield 178, 3) := dk_U2 a_Mo_begin_339 (dko_180 _) rfl
theorem d_Mo_begin_342 : decode b_Mo_begin 342 = .ok (.iload_n 1, 1) := dk_0 a_Mo_begin_342 (dko_27 _)
theorem d_Mo_begin_343 : decode b_Mo_begin 343 = .ok (.baload, 1) := dk_0 a_Mo_begin_343 (dko_51 _)
theorem d_Mo_begin_344 : decode b_Mo_begin 344 = .ok (.ifCond .eq 8, 3) := dk_S2 a_Mo_begin_344 (dko_153 _) (by decide +kernel)
theorem d_Mo_begin_347 : decode b_Mo_begin 347 = .ok (.lload 6, 2) := dk_U1 a_Mo_begin_347 (dko_22 _) rfl
theorem d_Mo_begin_349 : decode b_Mo_begin 349 = .ok (.goto 10, 3) := dk_S2 a_Mo_begin_349 (dko_167 _) (by decide +kernel)
theorem d_Mo_begin_352 : decode b_Mo_begin 352 = .ok (.aload_n 0, 1) := dk_0 a_Mo_begin_352 (dko_42 _)
theorem d_Mo_begin_353 : decode b_Mo_begin 353 = .ok (.getfield 159, 3) := dk_U2 a_Mo_begin_353 (dko_180 _) rfl
theorem d_Mo_begin_356 : decode b_Mo_begin 356 = .ok (.iload 10, 2) := dk_U1 a_Mo_begin_356 (dko_21 _) rfl
theorem d_Mo_begin_358 : decode b_Mo_begin 358 = .ok (.laload, 1) := dk_0 a_Mo_begin_358 (dko_47 _)
theorem d_Mo_begin_359 : decode b_Mo_begin 359 = .ok (.lastore, 1) := dk_0 a_Mo_begin_359 (dko_80 _)
theorem d_Mo_begin_360 : decode b_Mo_begin 360 = .ok (.goto 170, 3) := dk_S2 a_Mo_begin_360 (dko_167 _) (by decide +kernel)
theorem d_Mo_begin_363 : decode b_Mo_begin 363 = .ok (.iload_n 3, 1) := dk_0 a_Mo_begin_363 (dko_29 _)
theorem d_Mo_begin_364 : decode b_Mo_begin 364 = .ok (.bipush 12, 2) := dk_S1 a_Mo_begin_364 (dko_16 _) (by decide +kernel)
theorem d_Mo_begin_366 : decode b_Mo_begin 366 = .ok (.if_icmp .ne 24, 3) := dk_S2 a_Mo_begin_366 (dko_160 _) (by decide +kernel)
theorem d_Mo_begin_369 : decode b_Mo_begin 369 = .ok (.aload_n 0, 1) := dk_0 a_Mo_begin_369 (dko_42 _)
theorem d_Mo_begin_370 : decode b_Mo_begin 370 = .ok (.getfield 178, 3) := dk_U2 a_Mo_begin_370 (dko_180 _) rfl
theorem d_Mo_begin_373 : decode b_Mo_begin 373 = .ok (.iload_n 1, 1) := dk_0 a_Mo_begin_373 (dko_27 _)
theorem d_Mo_begin_374 : decode b_Mo_begin 374 = .ok (.lload 6, 2) := dk_U1 a_Mo_begin_374 (dko_22 _) rfl
theorem d_Mo_begin_376 : decode b_Mo_begin 376 = .ok (.lconst 0, 1) := dk_0 a_Mo_begin_376 (dko_9 _)
theorem d_Mo_begin_377 : decode b_Mo_begin 377 = .ok (.lcmp, 1) := dk_0 a_Mo_begin_377 (dko_148 _)
theorem d_Mo_begin_378 : decode b_Mo_begin 378 = .ok (.ifCond .eq 7, 3) := dk_S2 a_Mo_begin_378 (dko_153 _) (by decide +kernel)
theorem d_Mo_begin_381 : decode b_Mo_begin 381 = .ok (.iconst 1, 1) := dk_0 a_Mo_begin_381 (dko_4 _)
theorem d_Mo_begin_382 : decode b_Mo_begin 382 = .ok (.goto 4, 3) := dk_S2 a_Mo_begin_382 (dko_167 _) (by decide +kernel)
theorem d_Mo_begin_385 : decode b_Mo_begin 385 = .ok (.iconst 0, 1) := dk_0 a_Mo_begin_385 (dko_3 _)
theorem d_Mo_begin_386 : decode b_Mo_begin 386 = .ok (.bastore, 1) := dk_0 a_Mo_begin_386 (dko_84 _)
theorem d_Mo_begin_387 : decode b_Mo_begin 387 = .ok (.goto 143, 3) := dk_S2 a_Mo_begin_387 (dko_167 _) (by decide +kernel)
theorem d_Mo_begin_390 : decode b_Mo_begin 390 = .ok (.iload_n 3, 1) := dk_0 a_Mo_begin_390 (dko_29 _)
theorem d_Mo_begin_391 : decode b_Mo_begin 391 = .ok (.bipush 15, 2) := dk_S1 a_Mo_begin_391 (dko_16 _) (by decide +kernel)
theorem d_Mo_begin_393 : decode b_Mo_begin 393 = .ok (.if_icmp .ne 39, 3) := dk_S2 a_Mo_begin_393 (dko_160 _) (by decide +kernel)
theorem d_Mo_begin_396 : decode b_Mo_begin 396 = .ok (.aload_n 0, 1) := dk_0 a_Mo_begin_396 (dko_42 _)
theorem d_Mo_begin_397 : decode b_Mo_begin 397 = .ok (.getfield 184, 3) := dk_U2 a_Mo_begin_397 (dko_180 _) rfl
theorem d_Mo_begin_400 : decode b_Mo_begin 400 = .ok (.iload_n 1, 1) := dk_0 a_Mo_begin_400 (dko_27 _)
theorem d_Mo_begin_401 : decode b_Mo_begin 401 = .ok (.lload 6, 2) := dk_U1 a_Mo_begin_401 (dko_22 _) rfl
theorem d_Mo_begin_403 : decode b_Mo_begin 403 = .ok (.lconst 0, 1) := dk_0 a_Mo_begin_403 (dko_9 _)
theorem d_Mo_begin_404 : decode b_Mo_begin 404 = .ok (.lcmp, 1) := dk_0 a_Mo_begin_404 (dko_148 _)
theorem d_Mo_begin_405 : decode b_Mo_begin 405 = .ok (.ifCond .eq 12, 3) := dk_S2 a_Mo_begin_405 (dko_153 _) (by decide +kernel)
theorem d_Mo_begin_408 : decode b_Mo_begin 408 = .ok (.aload_n 0, 1) := dk_0 a_Mo_begin_408 (dko_42 _)
theorem d_Mo_begin_409 : decode b_Mo_begin 409 = .ok (.getfield 169, 3) := dk_U2 a_Mo_begin_409 (dko_180 _) rfl
theorem d_Mo_begin_412 : decode b_Mo_begin 412 = .ok (.iload_n 1, 1) := dk_0 a_Mo_begin_412 (dko_27 _)
theorem d_Mo_begin_413 : decode b_Mo_begin 413 = .ok (.iaload, 1) := dk_0 a_Mo_begin_413 (dko_46 _)
theorem d_Mo_begin_414 : decode b_Mo_begin 414 = .ok (.goto 14, 3) := dk_S2 a_Mo_begin_414 (dko_167 _) (by decide +kernel)
theorem d_Mo_begin_417 : decode b_Mo_begin 417 = .ok (.aload_n 0, 1) := dk_0 a_Mo_begin_417 (dko_42 _)
theorem d_Mo_begin_418 : decode b_Mo_begin 418 = .ok (.getfield 172, 3) := dk_U2 a_Mo_begin_418 (dko_180 _) rfl
theorem d_Mo_begin_421 : decode b_Mo_begin 421 = .ok (.aload_n 0, 1) := dk_0 a_Mo_begin_421 (dko_42 _)
theorem d_Mo_begin_422 : decode b_Mo_begin 422 = .ok (.getfield 169, 3) := dk_U2 a_Mo_begin_422 (dko_180 _) rfl
theorem d_Mo_begin_425 : decode b_Mo_begin 425 = .ok (.iload_n 1, 1) := dk_0 a_Mo_begin_425 (dko_27 _)
theorem d_Mo_begin_426 : decode b_Mo_begin 426 = .ok (.iaload, 1) := dk_0 a_Mo_begin_426 (dko_46 _)
theorem d_Mo_begin_427 : decode b_Mo_begin 427 = .ok (.iaload, 1) := dk_0 a_Mo_begin_427 (dko_46 _)
theorem d_Mo_begin_428 : decode b_Mo_begin 428 = .ok (.iastore, 1) := dk_0 a_Mo_begin_428 (dko_79 _)
theorem d_Mo_begin_429 : decode b_Mo_begin 429 = .ok (.goto 101, 3) := dk_S2 a_Mo_begin_429 (dko_167 _) (by decide +kernel)
theorem d_Mo_begin_432 : decode b_Mo_begin 432 = .ok (.iload_n 3, 1) := dk_0 a_Mo_begin_432 (dko_29 _)
theorem d_Mo_begin_433 : decode b_Mo_begin 433 = .ok (.bipush 17, 2) := dk_S1 a_Mo_begin_433 (dko_16 _) (by decide +kernel)
theorem d_Mo_begin_435 : decode b_Mo_begin 435 = .ok (.if_icmp .ne 52, 3) := dk_S2 a_Mo_begin_435 (dko_160 _) (by decide +kernel)
theorem d_Mo_begin_438 : decode b_Mo_begin 438 = .ok (.aload_n 0, 1) := dk_0 a_Mo_begin_438 (dko_42 _)
theorem d_Mo_begin_439 : decode b_Mo_begin 439 = .ok (.getfield 184, 3) := dk_U2 a_Mo_begin_439 (dko_180 _) rfl
theorem d_Mo_begin_442 : decode b_Mo_begin 442 = .ok (.iload_n 1, 1) := dk_0 a_Mo_begin_442 (dko_27 _)
theorem d_Mo_begin_443 : decode b_Mo_begin 443 = .ok (.lload 6, 2) := dk_U1 a_Mo_begin_443 (dko_22 _) rfl
theorem d_Mo_begin_445 : decode b_Mo_begin 445 = .ok (.lconst 0, 1) := dk_0 a_Mo_begin_445 (dko_9 _)
theorem d_Mo_begin_446 : decode b_Mo_begin 446 = .ok (.lcmp, 1) := dk_0 a_Mo_begin_446 (dko_148 _)
theorem d_Mo_begin_447 : decode b_Mo_begin 447 = .ok (.ifCond .eq 12, 3) := dk_S2 a_Mo_begin_447 (dko_153 _) (by decide +kernel)
theorem d_Mo_begin_450 : decode b_Mo_begin 450 = .ok (.aload_n 0, 1) := dk_0 a_Mo_begin_450 (dko_42 _)
theorem d_Mo_begin_451 : decode b_Mo_begin 451 = .ok (.getfield 169, 3) := dk_U2 a_Mo_begin_451 (dko_180 _) rfl
theorem d_Mo_begin_454 : decode b_Mo_begin 454 = .ok (.iload_n 1, 1) := dk_0 a_Mo_begin_454 (dko_27 _)
theorem d_Mo_begin_455 : decode b_Mo_begin 455 = .ok (.iaload, 1) := dk_0 a_Mo_begin_455 (dko_46 _)
theorem d_Mo_begin_456 : decode b_Mo_begin 456 = .ok (.goto 14, 3) := dk_S2 a_Mo_begin_456 (dko_167 _) (by decide +kernel)
theorem d_Mo_begin_459 : decode b_Mo_begin 459 = .ok (.aload_n 0, 1) := dk_0 a_Mo_begin_459 (dko_42 _)
theorem d_Mo_begin_460 : decode b_Mo_begin 460 = .ok (.getfield 172, 3) := dk_U2 a_Mo_begin_460 (dko_180 _) rfl
theorem d_Mo_begin_463 : decode b_Mo_begin 463 = .ok (.aload_n 0, 1) := dk_0 a_Mo_begin_463 (dko_42 _)
theorem d_Mo_begin_464 : decode b_Mo_begin 464 = .ok (.getfield 169, 3) := dk_U2 a_Mo_begin_464 (dko_180 _) rfl
theorem d_Mo_begin_467 : decode b_Mo_begin 467 = .ok (.iload_n 1, 1) := dk_0 a_Mo_begin_467 (dko_27 _)
theorem d_Mo_begin_468 : decode b_Mo_begin 468 = .ok (.iaload, 1) := dk_0 a_Mo_begin_468 (dko_46 _)
theorem d_Mo_begin_469 : decode b_Mo_begin 469 = .ok (.iaload, 1) := dk_0 a_Mo_begin_469 (dko_46 _)
theorem d_Mo_begin_470 : decode b_Mo_begin 470 = .ok (.iastore, 1) := dk_0 a_Mo_begin_470 (dko_79 _)
theorem d_Mo_begin_471 : decode b_Mo_begin 471 = .ok (.lload 6, 2) := dk_U1 a_Mo_begin_471 (dko_22 _) rfl
theorem d_Mo_begin_473 : decode b_Mo_begin 473 = .ok (.lconst 0, 1) := dk_0 a_Mo_begin_473 (dko_9 _)
theorem d_Mo_begin_474 : decode b_Mo_begin 474 = .ok (.lcmp, 1) := dk_0 a_Mo_begin_474 (dko_148 _)
theorem d_Mo_begin_475 : decode b_Mo_begin 475 = .ok (.ifCond .ne 55, 3) := dk_S2 a_Mo_begin_475 (dko_154 _) (by decide +kernel)
theorem d_Mo_begin_478 : decode b_Mo_begin 478 = .ok (.aload_n 0, 1) := dk_0 a_Mo_begin_478 (dko_42 _)
theorem d_Mo_begin_479 : decode b_Mo_begin 479 = .ok (.iload_n 2, 1) := dk_0 a_Mo_begin_479 (dko_28 _)
theorem d_Mo_begin_480 : decode b_Mo_begin 480 = .ok (.iconst 3, 1) := dk_0 a_Mo_begin_480 (dko_6 _)
theorem d_Mo_begin_481 : decode b_Mo_begin 481 = .ok (.invokevirtual 439, 3) := dk_U2 a_Mo_begin_481 (dko_182 _) rfl
theorem d_Mo_begin_484 : decode b_Mo_begin 484 = .ok (.goto 46, 3) := dk_S2 a_Mo_begin_484 (dko_167 _) (by decide +kernel)
theorem d_Mo_begin_487 : decode b_Mo_begin 487 = .ok (.iload_n 3, 1) := dk_0 a_Mo_begin_487 (dko_29 _)
theorem d_Mo_begin_488 : decode b_Mo_begin 488 = .ok (.bipush 21, 2) := dk_S1 a_Mo_begin_488 (dko_16 _) (by decide +kernel)
theorem d_Mo_begin_490 : decode b_Mo_begin 490 = .ok (.if_icmp .ne 11, 3) := dk_S2 a_Mo_begin_490 (dko_160 _) (by decide +kernel)
theorem d_Mo_begin_493 : decode b_Mo_begin 493 = .ok (.aload_n 0, 1) := dk_0 a_Mo_begin_493 (dko_42 _)
theorem d_Mo_begin_494 : decode b_Mo_begin 494 = .ok (.iconst 1, 1) := dk_0 a_Mo_begin_494 (dko_4 _)
theorem d_Mo_begin_495 : decode b_Mo_begin 495 = .ok (.putfield 538, 3) := dk_U2 a_Mo_begin_495 (dko_181 _) rfl
theorem d_Mo_begin_498 : decode b_Mo_begin 498 = .ok (.goto 32, 3) := dk_S2 a_Mo_begin_498 (dko_167 _) (by decide +kernel)
theorem d_Mo_begin_501 : decode b_Mo_begin 501 = .ok (.iload_n 3, 1) := dk_0 a_Mo_begin_501 (dko_29 _)
theorem d_Mo_begin_502 : decode b_Mo_begin 502 = .ok (.bipush 22, 2) := dk_S1 a_Mo_begin_502 (dko_16 _) (by decide +kernel)
theorem d_Mo_begin_504 : decode b_Mo_begin 504 = .ok (.if_icmp .ne 26, 3) := dk_S2 a_Mo_begin_504 (dko_160 _) (by decide +kernel)
theorem d_Mo_begin_507 : decode b_Mo_begin 507 = .ok (.aload_n 0, 1) := dk_0 a_Mo_begin_507 (dko_42 _)
theorem d_Mo_begin_508 : decode b_Mo_begin 508 = .ok (.iload 10, 2) := dk_U1 a_Mo_begin_508 (dko_21 _) rfl
theorem d_Mo_begin_510 : decode b_Mo_begin 510 = .ok (.invokevirtual 436, 3) := dk_U2 a_Mo_begin_510 (dko_182 _) rfl
theorem d_Mo_begin_513 : decode b_Mo_begin 513 = .ok (.istore 11, 2) := dk_U1 a_Mo_begin_513 (dko_54 _) rfl
theorem d_Mo_begin_515 : decode b_Mo_begin 515 = .ok (.iload 11, 2) := dk_U1 a_Mo_begin_515 (dko_21 _) rfl
theorem d_Mo_begin_517 : decode b_Mo_begin 517 = .ok (.ifCond .le 13, 3) := dk_S2 a_Mo_begin_517 (dko_158 _) (by decide +kernel)
theorem d_Mo_begin_520 : decode b_Mo_begin 520 = .ok (.aload_n 0, 1) := dk_0 a_Mo_begin_520 (dko_42 _)
theorem d_Mo_begin_521 : decode b_Mo_begin 521 = .ok (.iload_n 2, 1) := dk_0 a_Mo_begin_521 (dko_28 _)
theorem d_Mo_begin_522 : decode b_Mo_begin 522 = .ok (.bipush 10, 2) := dk_S1 a_Mo_begin_522 (dko_16 _) (by decide +kernel)
theorem d_Mo_begin_524 : decode b_Mo_begin 524 = .ok (.iload 11, 2) := dk_U1 a_Mo_begin_524 (dko_21 _) rfl
theorem d_Mo_begin_526 : decode b_Mo_begin 526 = .ok (.iadd, 1) := dk_0 a_Mo_begin_526 (dko_96 _)
theorem d_Mo_begin_527 : decode b_Mo_begin 527 = .ok (.invokevirtual 439, 3) := dk_U2 a_Mo_begin_527 (dko_182 _) rfl
theorem d_Mo_begin_530 : decode b_Mo_begin 530 = .ok (.aload_n 0, 1) := dk_0 a_Mo_begin_530 (dko_42 _)
theorem d_Mo_begin_531 : decode b_Mo_begin 531 = .ok (.getfield 169, 3) := dk_U2 a_Mo_begin_531 (dko_180 _) rfl
theorem d_Mo_begin_534 : decode b_Mo_begin 534 = .ok (.iload_n 1, 1) := dk_0 a_Mo_begin_534 (dko_27 _)
theorem d_Mo_begin_535 : decode b_Mo_begin 535 = .ok (.iaload, 1) := dk_0 a_Mo_begin_535 (dko_46 _)
theorem d_Mo_begin_536 : decode b_Mo_begin 536 = .ok (.istore 11, 2) := dk_U1 a_Mo_begin_536 (dko_54 _) rfl
theorem d_Mo_begin_538 : decode b_Mo_begin 538 = .ok (.iload 11, 2) := dk_U1 a_Mo_begin_538 (dko_21 _) rfl
theorem d_Mo_begin_540 : decode b_Mo_begin 540 = .ok (.iconst (-1), 1) := dk_0 a_Mo_begin_540 (dko_2 _)
theorem d_Mo_begin_541 : decode b_Mo_begin 541 = .ok (.if_icmp .eq 31, 3) := dk_S2 a_Mo_begin_541 (dko_159 _) (by decide +kernel)
theorem d_Mo_begin_544 : decode b_Mo_begin 544 = .ok (.aload_n 0, 1) := dk_0 a_Mo_begin_544 (dko_42 _)
theorem d_Mo_begin_545 : decode b_Mo_begin 545 = .ok (.getfield 175, 3) := dk_U2 a_Mo_begin_545 (dko_180 _) rfl
theorem d_Mo_begin_548 : decode b_Mo_begin 548 = .ok (.iload 11, 2) := dk_U1 a_Mo_begin_548 (dko_21 _) rfl
theorem d_Mo_begin_550 : decode b_Mo_begin 550 = .ok (.iconst 0, 1) := dk_0 a_Mo_begin_550 (dko_3 _)
theorem d_Mo_begin_551 : decode b_Mo_begin 551 = .ok (.bastore, 1) := dk_0 a_Mo_begin_551 (dko_84 _)
theorem d_Mo_begin_552 : decode b_Mo_begin 552 = .ok (.aload_n 0, 1) := dk_0 a_Mo_begin_552 (dko_42 _)
theorem d_Mo_begin_553 : decode b_Mo_begin 553 = .ok (.getfield 181, 3) := dk_U2 a_Mo_begin_553 (dko_180 _) rfl
theorem d_Mo_begin_556 : decode b_Mo_begin 556 = .ok (.iload 11, 2) := dk_U1 a_Mo_begin_556 (dko_21 _) rfl
theorem d_Mo_begin_558 : decode b_Mo_begin 558 = .ok (.iconst 0, 1) := dk_0 a_Mo_begin_558 (dko_3 _)
theorem d_Mo_begin_559 : decode b_Mo_begin 559 = .ok (.bastore, 1) := dk_0 a_Mo_begin_559 (dko_84 _)
theorem d_Mo_begin_560 : decode b_Mo_begin 560 = .ok (.aload_n 0, 1) := dk_0 a_Mo_begin_560 (dko_42 _)
theorem d_Mo_begin_561 : decode b_Mo_begin 561 = .ok (.getfield 172, 3) := dk_U2 a_Mo_begin_561 (dko_180 _) rfl
theorem d_Mo_begin_564 : decode b_Mo_begin 564 = .ok (.iload 11, 2) := dk_U1 a_Mo_begin_564 (dko_21 _) rfl
theorem d_Mo_begin_566 : decode b_Mo_begin 566 = .ok (.iaload, 1) := dk_0 a_Mo_begin_566 (dko_46 _)
theorem d_Mo_begin_567 : decode b_Mo_begin 567 = .ok (.istore 11, 2) := dk_U1 a_Mo_begin_567 (dko_54 _) rfl
theorem d_Mo_begin_569 : decode b_Mo_begin 569 = .ok (.goto (-31), 3) := dk_S2 a_Mo_begin_569 (dko_167 _) (by decide +kernel)
theorem d_Mo_begin_572 : decode b_Mo_begin 572 = .ok (.iconst 1, 1) := dk_0 a_Mo_begin_572 (dko_4 _)
theorem d_Mo_begin_573 : decode b_Mo_begin 573 = .ok (.ireturn, 1) := dk_0 a_Mo_begin_573 (dko_172 _)
set_option maxHeartbeats 4000000 in
set_option maxRecDepth 100000 in
theorem ok_Mo_begin (pc : Nat) : OpS mt mi_Mo_begin pc (cs_Mo_begin pc) := (os_n (os_n (os_n (os_n (os_n (os_n (os_n (os_n (os_l (so_aload_n d_Mo_begin_0 rfl)) (os_l (so_get (C := R_Mo) (T := F_Mo) (N := 87) (j := 61) in_Mo rfl (by decide) mw_1855 d_Mo_begin_1))) (os_n (os_l (so_iload_n d_Mo_begin_4 rfl)) (os_n (os_l (so_iaload d_Mo_begin_5)) (os_l (so_istore_n d_Mo_begin_6 rfl (by decide)))))) (os_n (os_n (os_l (so_aload_n d_Mo_begin_7 rfl)) (os_l (so_iload_n d_Mo_begin_8 rfl))) (os_n (os_l (so_callV (iv := mi_Mo_kind) rfl rfl rfl mw_2627 mw_2629 sl_184 mw_18 mw_2630 ⟨by decide +kernel, by decide +kernel, by decide +kernel⟩ (by decide) d_Mo_begin_9)) (os_n (os_l (so_istore_n d_Mo_begin_12 rfl (by decide))) (os_l (so_aload_n d_Mo_begin_13 rfl)))))) (os_n (os_n (os_n (os_l (so_get (C := R_Mo) (T := F_Mo) (N := 87) (j := 72) in_Mo rfl (by decide) mw_1866 d_Mo_begin_14)) (os_l (so_sipush d_Mo_begin_17 (by decide)))) (os_n (os_l (so_iceq d_Mo_begin_20 (by decide))) (os_n (os_l (so_iload_n d_Mo_begin_23 rfl)) (os_l (so_bipush d_Mo_begin_24 (by decide)))))) (os_n (os_n (os_l (so_icne d_Mo_begin_26 (by decide))) (os_l (so_aload_n d_Mo_begin_29 rfl))) (os_n (os_l (so_get (C := R_Mo) (T := F_Mo) (N := 87) (j := 73) in_Mo rfl (by decide) mw_1867 d_Mo_begin_30)) (os_n (os_l (so_bipush d_Mo_begin_33 (by decide))) (os_l (so_icne d_Mo_begin_35 (by decide)))))))) (os_n (os_n (os_n (os_n (os_l (so_aload_n d_Mo_begin_38 rfl)) (os_l (so_iload_n d_Mo_begin_39 rfl))) (os_n (os_l (so_iconst d_Mo_begin_40 (by decide))) (os_n (os_l (so_callV (iv := mi_Mo_raise) rfl rfl rfl mw_2521 mw_2523 sl_172 mw_18 mw_2524 ⟨by decide +kernel, by decide +kernel, by decide +kernel⟩ (by decide) d_Mo_begin_41)) (os_l (so_iconst d_Mo_begin_44 (by decide)))))) (os_n (os_n (os_l (so_zreturn rfl d_Mo_begin_45)) (os_l (so_aload_n d_Mo_begin_46 rfl))) (os_n (os_l (so_dup d_Mo_begin_47)) (os_n (os_l (so_get (C := R_Mo) (T := F_Mo) (N := 87) (j := 72) in_Mo rfl (by decide) mw_1866 d_Mo_begin_48)) (os_l (so_iconst d_Mo_begin_51 (by decide))))))) (os_n (os_n (os_n (os_l (so_iadd d_Mo_begin_52)) (os_l (so_putI (C := R_Mo) (T := F_Mo) (N := 87) (j := 72) in_Mo t_Mo_ok n_Mo rfl (by decide) mw_1866 rfl (by decide +kernel) d_Mo_begin_53))) (os_n (os_l (so_aload_n d_Mo_begin_56 rfl)) (os_n (os_l (so_dup d_Mo_begin_57)) (os_l (so_get (C := R_Mo) (T := F_Mo) (N := 87) (j := 73) in_Mo rfl (by decide) mw_1867 d_Mo_begin_58))))) (os_n (os_n (os_l (so_iload_n d_Mo_begin_61 rfl)) (os_l (so_bipush d_Mo_begin_62 (by decide)))) (os_n (os_l (so_icne d_Mo_begin_64 (by decide))) (os_n (os_l (so_iconst d_Mo_begin_67 (by decide))) (os_l (so_goto d_Mo_begin_68 (by decide))))))))) (os_n (os_n (os_n (os_n (os_n (os_l (so_iconst d_Mo_begin_71 (by decide))) (os_l (so_iadd d_Mo_begin_72))) (os_n (os_l (so_putI (C := R_Mo) (T := F_Mo) (N := 87) (j := 73) in_Mo t_Mo_ok n_Mo rfl (by decide) mw_1867 rfl (by decide +kernel) d_Mo_begin_73)) (os_n (os_l (so_aload_n d_Mo_begin_76 rfl)) (os_l (so_get (C := R_Mo) (T := F_Mo) (N := 87) (j := 2) in_Mo rfl (by decide) mw_1796 d_Mo_begin_77))))) (os_n (os_n (os_l (so_iload_n d_Mo_begin_80 rfl)) (os_l (so_callVN (iv := mi_Tx_node1) rfl rfl rfl nw_2578 mw_2580 sl_175 mw_19 mw_2581 ⟨by decide +kernel, by decide +kernel, by decide +kernel⟩ (by decide) d_Mo_begin_81))) (os_n (os_l (so_istore d_Mo_begin_84 (by decide))) (os_n (os_l (so_iload_n d_Mo_begin_86 rfl)) (os_l (so_bipush d_Mo_begin_87 (by decide))))))) (os_n (os_n (os_n (os_l (so_iceq d_Mo_begin_89 (by decide))) (os_l (so_iload_n d_Mo_begin_92 rfl))) (os_n (os_l (so_bipush d_Mo_begin_93 (by decide))) (os_n (os_l (so_iceq d_Mo_begin_95 (by decide))) (os_l (so_iload_n d_Mo_begin_98 rfl))))) (os_n (os_n (os_l (so_bipush d_Mo_begin_99 (by decide))) (os_l (so_iceq d_Mo_begin_101 (by decide)))) (os_n (os_l (so_iload_n d_Mo_begin_104 rfl)) (os_n (os_l (so_bipush d_Mo_begin_105 (by decide))) (os_l (so_iceq d_Mo_begin_107 (by decide)))))))) (os_n (os_n (os_n (os_n (os_l (so_iload_n d_Mo_begin_110 rfl)) (os_l (so_bipush d_Mo_begin_111 (by decide)))) (os_n (os_l (so_iceq d_Mo_begin_113 (by decide))) (os_n (os_l (so_iload_n d_Mo_begin_116 rfl)) (os_l (so_bipush d_Mo_begin_117 (by decide)))))) (os_n (os_n (os_l (so_iceq d_Mo_begin_119 (by decide))) (os_l (so_iload_n d_Mo_begin_122 rfl))) (os_n (os_l (so_bipush d_Mo_begin_123 (by decide))) (os_n (os_l (so_icne d_Mo_begin_125 (by decide))) (os_l (so_iconst d_Mo_begin_128 (by decide))))))) (os_n (os_n (os_n (os_l (so_goto d_Mo_begin_129 (by decide))) (os_l (so_iconst d_Mo_begin_132 (by decide)))) (os_n (os_l (so_istore d_Mo_begin_133 (by decide))) (os_n (os_l (so_iload d_Mo_begin_135)) (os_l (so_ifeq d_Mo_begin_137 (by decide)))))) (os_n (os_n (os_l (so_aload_n d_Mo_begin_140 rfl)) (os_l (so_aload_n d_Mo_begin_141 rfl))) (os_n (os_l (so_get (C := R_Mo) (T := F_Mo) (N := 87) (j := 2) in_Mo rfl (by decide) mw_1796 d_Mo_begin_142)) (os_n (os_l (so_iload_n d_Mo_begin_145 rfl)) (os_l (so_iconst d_Mo_begin_146 (by decide)))))))))) (os_n (os_n (os_n (os_n (os_n (os_n (os_l (so_callVN (iv := mi_Tx_kid) rfl rfl rfl nw_2586 mw_2588 sl_177 mw_19 mw_2589 ⟨by decide +kernel, by decide +kernel, by decide +kernel⟩ (by decide) d_Mo_begin_147)) (os_l (so_callV (iv := mi_Mo_reckon) rfl rfl rfl mw_2631 mw_2633 sl_185 mw_18 mw_2634 ⟨by decide +kernel, by decide +kernel, by decide +kernel⟩ (by decide) d_Mo_begin_150))) (os_n (os_l (so_goto d_Mo_begin_153 (by decide))) (os_n (os_l (so_lconst d_Mo_begin_156 (by decide))) (os_l (so_lstore d_Mo_begin_157 (by decide)))))) (os_n (os_n (os_l (so_iload_n d_Mo_begin_159 rfl)) (os_l (so_bipush d_Mo_begin_160 (by decide)))) (os_n (os_l (so_icne d_Mo_begin_162 (by decide))) (os_n (os_l (so_aload_n d_Mo_begin_165 rfl)) (os_l (so_aload_n d_Mo_begin_166 rfl)))))) (os_n (os_n (os_n (os_l (so_get (C := R_Mo) (T := F_Mo) (N := 87) (j := 2) in_Mo rfl (by decide) mw_1796 d_Mo_begin_167)) (os_l (so_iload_n d_Mo_begin_170 rfl))) (os_n (os_l (so_iconst d_Mo_begin_171 (by decide))) (os_n (os_l (so_callVN (iv := mi_Tx_kid) rfl rfl rfl nw_2586 mw_2588 sl_177 mw_19 mw_2589 ⟨by decide +kernel, by decide +kernel, by decide +kernel⟩ (by decide) d_Mo_begin_172)) (os_l (so_callV (iv := mi_Mo_reckon) rfl rfl rfl mw_2631 mw_2633 sl_185 mw_18 mw_2634 ⟨by decide +kernel, by decide +kernel, by decide +kernel⟩ (by decide) d_Mo_begin_175))))) (os_n (os_n (os_l (so_goto d_Mo_begin_178 (by decide))) (os_l (so_lconst d_Mo_begin_181 (by decide)))) (os_n (os_l (so_lstore d_Mo_begin_182 (by decide))) (os_n (os_l (so_aload_n d_Mo_begin_184 rfl)) (os_l (so_callV (iv := mi_Mo_isBad) rfl rfl rfl mw_2635 mw_2637 sl_186 mw_18 mw_2638 ⟨by decide +kernel, by decide +kernel, by decide +kernel⟩ (by decide) d_Mo_begin_185))))))) (os_n (os_n (os_n (os_n (os_l (so_ifeq d_Mo_begin_188 (by decide))) (os_l (so_iconst d_Mo_begin_191 (by decide)))) (os_n (os_l (so_zreturn rfl d_Mo_begin_192)) (os_n (os_l (so_aload_n d_Mo_begin_193 rfl)) (os_l (so_get (C := R_Mo) (T := F_Mo) (N := 87) (j := 64) in_Mo rfl (by decide) mw_1858 d_Mo_begin_194))))) (os_n (os_n (os_l (so_iload_n d_Mo_begin_197 rfl)) (os_l (so_iconst d_Mo_begin_198 (by decide)))) (os_n (os_l (so_bastore d_Mo_begin_199)) (os_n (os_l (so_aload_n d_Mo_begin_200 rfl)) (os_l (so_get (C := R_Mo) (T := F_Mo) (N := 87) (j := 68) in_Mo rfl (by decide) mw_1862 d_Mo_begin_201)))))) (os_n (os_n (os_n (os_l (so_iload_n d_Mo_begin_204 rfl)) (os_l (so_aload_n d_Mo_begin_205 rfl))) (os_n (os_l (so_get (C := R_Mo) (T := F_Mo) (N := 87) (j := 74) in_Mo rfl (by decide) mw_1868 d_Mo_begin_206)) (os_n (os_l (so_iastore d_Mo_begin_209)) (os_l (so_aload_n d_Mo_begin_210 rfl))))) (os_n (os_n (os_l (so_get (C := R_Mo) (T := F_Mo) (N := 87) (j := 67) in_Mo rfl (by decide) mw_1861 d_Mo_begin_211)) (os_l (so_iload_n d_Mo_begin_214 rfl))) (os_n (os_l (so_aload_n d_Mo_begin_215 rfl)) (os_n (os_l (so_get (C := R_Mo) (T := F_Mo) (N := 87) (j := 62) in_Mo rfl (by decide) mw_1856 d_Mo_begin_216)) (os_l (so_iload_n d_Mo_begin_219 rfl)))))))) (os_n (os_n (os_n (os_n (os_n (os_l (so_iaload d_Mo_begin_220)) (os_l (so_iastore d_Mo_begin_221))) (os_n (os_l (so_aload_n d_Mo_begin_222 rfl)) (os_n (os_l (so_get (C := R_Mo) (T := F_Mo) (N := 87) (j := 70) in_Mo rfl (by decide) mw_1864 d_Mo_begin_223)) (os_l (so_iload_n d_Mo_begin_226 rfl))))) (os_n (os_n (os_l (so_lload d_Mo_begin_227)) (os_l (so_lastore d_Mo_begin_229))) (os_n (os_l (so_aload_n d_Mo_begin_230 rfl)) (os_n (os_l (so_get (C := R_Mo) (T := F_Mo) (N := 87) (j := 69) in_Mo rfl (by decide) mw_1863 d_Mo_begin_231)) (os_l (so_iload_n d_Mo_begin_234 rfl)))))) (os_n (os_n (os_n (os_l (so_iload_n d_Mo_begin_235 rfl)) (os_l (so_bipush d_Mo_begin_236 (by decide)))) (os_n (os_l (so_icne d_Mo_begin_238 (by decide))) (os_n (os_l (so_lload d_Mo_begin_241)) (os_l (so_goto d_Mo_begin_243 (by decide)))))) (os_n (os_n (os_l (so_lload d_Mo_begin_246)) (os_l (so_ldc2 mw_2611 d_Mo_begin_248))) (os_n (os_l (so_ldiv d_Mo_begin_251)) (os_n (os_l (so_lastore d_Mo_begin_252)) (os_l (so_aload_n d_Mo_begin_253 rfl))))))) (os_n (os_n (os_n (os_n (os_l (so_get (C := R_Mo) (T := F_Mo) (N := 87) (j := 65) in_Mo rfl (by decide) mw_1859 d_Mo_begin_254)) (os_l (so_iload_n d_Mo_begin_257 rfl))) (os_n (os_l (so_iconst d_Mo_begin_258 (by decide))) (os_n (os_l (so_bastore d_Mo_begin_259)) (os_l (so_aload_n d_Mo_begin_260 rfl))))) (os_n (os_n (os_l (so_get (C := R_Mo) (T := F_Mo) (N := 87) (j := 2) in_Mo rfl (by decide) mw_1796 d_Mo_begin_261)) (os_l (so_getN (C := R_Tx) (T := F_Tx) (N := 39) (j := 15) in_Tx rfl (by decide) nw_1597 d_Mo_begin_264))) (os_n (os_l (so_iload d_Mo_begin_267)) (os_n (os_l (so_laload d_Mo_begin_269)) (os_l (so_l2i d_Mo_begin_270)))))) (os_n (os_n (os_n (os_l (so_istore d_Mo_begin_271 (by decide))) (os_l (so_iload_n d_Mo_begin_273 rfl))) (os_n (os_l (so_bipush d_Mo_begin_274 (by decide))) (os_n (os_l (so_icne d_Mo_begin_276 (by decide))) (os_l (so_aload_n d_Mo_begin_279 rfl))))) (os_n (os_n (os_l (so_get (C := R_Mo) (T := F_Mo) (N := 87) (j := 58) in_Mo rfl (by decide) mw_1852 d_Mo_begin_280)) (os_l (so_iload d_Mo_begin_283))) (os_n (os_l (so_lload d_Mo_begin_285)) (os_n (os_l (so_lastore d_Mo_begin_287)) (os_l (so_goto d_Mo_begin_288 (by decide))))))))))) (os_n (os_n (os_n (os_n (os_n (os_n (os_n (os_l (so_iload_n d_Mo_begin_291 rfl)) (os_l (so_bipush d_Mo_begin_292 (by decide)))) (os_n (os_l (so_icne d_Mo_begin_294 (by decide))) (os_n (os_l (so_aload_n d_Mo_begin_297 rfl)) (os_l (so_get (C := R_Mo) (T := F_Mo) (N := 87) (j := 71) in_Mo rfl (by decide) mw_1865 d_Mo_begin_298))))) (os_n (os_n (os_l (so_iload_n d_Mo_begin_301 rfl)) (os_l (so_aload_n d_Mo_begin_302 rfl))) (os_n (os_l (so_get (C := R_Mo) (T := F_Mo) (N := 87) (j := 58) in_Mo rfl (by decide) mw_1852 d_Mo_begin_303)) (os_n (os_l (so_iload d_Mo_begin_306)) (os_l (so_laload d_Mo_begin_308)))))) (os_n (os_n (os_n (os_l (so_lastore d_Mo_begin_309)) (os_l (so_aload_n d_Mo_begin_310 rfl))) (os_n (os_l (so_get (C := R_Mo) (T := F_Mo) (N := 87) (j := 65) in_Mo rfl (by decide) mw_1859 d_Mo_begin_311)) (os_n (os_l (so_iload_n d_Mo_begin_314 rfl)) (os_l (so_aload_n d_Mo_begin_315 rfl))))) (os_n (os_n (os_l (so_get (C := R_Mo) (T := F_Mo) (N := 87) (j := 69) in_Mo rfl (by decide) mw_1863 d_Mo_begin_316)) (os_l (so_iload_n d_Mo_begin_319 rfl))) (os_n (os_l (so_laload d_Mo_begin_320)) (os_n (os_l (so_lconst d_Mo_begin_321 (by decide))) (os_l (so_lcmp d_Mo_begin_322))))))) (os_n (os_n (os_n (os_n (os_l (so_ifge d_Mo_begin_323 (by decide))) (os_l (so_iconst d_Mo_begin_326 (by decide)))) (os_n (os_l (so_goto d_Mo_begin_327 (by decide))) (os_n (os_l (so_iconst d_Mo_begin_330 (by decide))) (os_l (so_bastore d_Mo_begin_331))))) (os_n (os_n (os_l (so_aload_n d_Mo_begin_332 rfl)) (os_l (so_get (C := R_Mo) (T := F_Mo) (N := 87) (j := 58) in_Mo rfl (by decide) mw_1852 d_Mo_begin_333))) (os_n (os_l (so_iload d_Mo_begin_336)) (os_n (os_l (so_aload_n d_Mo_begin_338 rfl)) (os_l (so_get (C := R_Mo) (T := F_Mo) (N := 87) (j := 65) in_Mo rfl (by decide) mw_1859 d_Mo_begin_339)))))) (os_n (os_n (os_n (os_l (so_iload_n d_Mo_begin_342 rfl)) (os_l (so_baload d_Mo_begin_343))) (os_n (os_l (so_ifeq d_Mo_begin_344 (by decide))) (os_n (os_l (so_lload d_Mo_begin_347)) (os_l (so_goto d_Mo_begin_349 (by decide)))))) (os_n (os_n (os_l (so_aload_n d_Mo_begin_352 rfl)) (os_l (so_get (C := R_Mo) (T := F_Mo) (N := 87) (j := 58) in_Mo rfl (by decide) mw_1852 d_Mo_begin_353))) (os_n (os_l (so_iload d_Mo_begin_356)) (os_n (os_l (so_laload d_Mo_begin_358)) (os_l (so_lastore d_Mo_begin_359)))))))) (os_n (os_n (os_n (os_n (os_n (os_l (so_goto d_Mo_begin_360 (by decide))) (os_l (so_iload_n d_Mo_begin_363 rfl))) (os_n (os_l (so_bipush d_Mo_begin_364 (by decide))) (os_n (os_l (so_icne d_Mo_begin_366 (by decide))) (os_l (so_aload_n d_Mo_begin_369 rfl))))) (os_n (os_n (os_l (so_get (C := R_Mo) (T := F_Mo) (N := 87) (j := 65) in_Mo rfl (by decide) mw_1859 d_Mo_begin_370)) (os_l (so_iload_n d_Mo_begin_373 rfl))) (os_n (os_l (so_lload d_Mo_begin_374)) (os_n (os_l (so_lconst d_Mo_begin_376 (by decide))) (os_l (so_lcmp d_Mo_begin_377)))))) (os_n (os_n (os_n (os_l (so_ifeq d_Mo_begin_378 (by decide))) (os_l (so_iconst d_Mo_begin_381 (by decide)))) (os_n (os_l (so_goto d_Mo_begin_382 (by decide))) (os_n (os_l (so_iconst d_Mo_begin_385 (by decide))) (os_l (so_bastore d_Mo_begin_386))))) (os_n (os_n (os_l (so_goto d_Mo_begin_387 (by decide))) (os_l (so_iload_n d_Mo_begin_390 rfl))) (os_n (os_l (so_bipush d_Mo_begin_391 (by decide))) (os_n (os_l (so_icne d_Mo_begin_393 (by decide))) (os_l (so_aload_n d_Mo_begin_396 rfl))))))) (os_n (os_n (os_n (os_n (os_l (so_get (C := R_Mo) (T := F_Mo) (N := 87) (j := 67) in_Mo rfl (by decide) mw_1861 d_Mo_begin_397)) (os_l (so_iload_n d_Mo_begin_400 rfl))) (os_n (os_l (so_lload d_Mo_begin_401)) (os_n (os_l (so_lconst d_Mo_begin_403 (by decide))) (os_l (so_lcmp d_Mo_begin_404))))) (os_n (os_n (os_l (so_ifeq d_Mo_begin_405 (by decide))) (os_l (so_aload_n d_Mo_begin_408 rfl))) (os_n (os_l (so_get (C := R_Mo) (T := F_Mo) (N := 87) (j := 62) in_Mo rfl (by decide) mw_1856 d_Mo_begin_409)) (os_n (os_l (so_iload_n d_Mo_begin_412 rfl)) (os_l (so_iaload d_Mo_begin_413)))))) (os_n (os_n (os_n (os_l (so_goto d_Mo_begin_414 (by decide))) (os_l (so_aload_n d_Mo_begin_417 rfl))) (os_n (os_l (so_get (C := R_Mo) (T := F_Mo) (N := 87) (j := 63) in_Mo rfl (by decide) mw_1857 d_Mo_begin_418)) (os_n (os_l (so_aload_n d_Mo_begin_421 rfl)) (os_l (so_get (C := R_Mo) (T := F_Mo) (N := 87) (j := 62) in_Mo rfl (by decide) mw_1856 d_Mo_begin_422))))) (os_n (os_n (os_l (so_iload_n d_Mo_begin_425 rfl)) (os_l (so_iaload d_Mo_begin_426))) (os_n (os_l (so_iaload d_Mo_begin_427)) (os_n (os_l (so_iastore d_Mo_begin_428)) (os_l (so_goto d_Mo_begin_429 (by decide)))))))))) (os_n (os_n (os_n (os_n (os_n (os_n (os_l (so_iload_n d_Mo_begin_432 rfl)) (os_l (so_bipush d_Mo_begin_433 (by decide)))) (os_n (os_l (so_icne d_Mo_begin_435 (by decide))) (os_n (os_l (so_aload_n d_Mo_begin_438 rfl)) (os_l (so_get (C := R_Mo) (T := F_Mo) (N := 87) (j := 67) in_Mo rfl (by decide) mw_1861 d_Mo_begin_439))))) (os_n (os_n (os_l (so_iload_n d_Mo_begin_442 rfl)) (os_l (so_lload d_Mo_begin_443))) (os_n (os_l (so_lconst d_Mo_begin_445 (by decide))) (os_n (os_l (so_lcmp d_Mo_begin_446)) (os_l (so_ifeq d_Mo_begin_447 (by decide))))))) (os_n (os_n (os_n (os_l (so_aload_n d_Mo_begin_450 rfl)) (os_l (so_get (C := R_Mo) (T := F_Mo) (N := 87) (j := 62) in_Mo rfl (by decide) mw_1856 d_Mo_begin_451))) (os_n (os_l (so_iload_n d_Mo_begin_454 rfl)) (os_n (os_l (so_iaload d_Mo_begin_455)) (os_l (so_goto d_Mo_begin_456 (by decide)))))) (os_n (os_n (os_l (so_aload_n d_Mo_begin_459 rfl)) (os_l (so_get (C := R_Mo) (T := F_Mo) (N := 87) (j := 63) in_Mo rfl (by decide) mw_1857 d_Mo_begin_460))) (os_n (os_l (so_aload_n d_Mo_begin_463 rfl)) (os_n (os_l (so_get (C := R_Mo) (T := F_Mo) (N := 87) (j := 62) in_Mo rfl (by decide) mw_1856 d_Mo_begin_464)) (os_l (so_iload_n d_Mo_begin_467 rfl))))))) (os_n (os_n (os_n (os_n (os_l (so_iaload d_Mo_begin_468)) (os_l (so_iaload d_Mo_begin_469))) (os_n (os_l (so_iastore d_Mo_begin_470)) (os_n (os_l (so_lload d_Mo_begin_471)) (os_l (so_lconst d_Mo_begin_473 (by decide)))))) (os_n (os_n (os_l (so_lcmp d_Mo_begin_474)) (os_l (so_ifne d_Mo_begin_475 (by decide)))) (os_n (os_l (so_aload_n d_Mo_begin_478 rfl)) (os_n (os_l (so_iload_n d_Mo_begin_479 rfl)) (os_l (so_iconst d_Mo_begin_480 (by decide))))))) (os_n (os_n (os_n (os_l (so_callV (iv := mi_Mo_raise) rfl rfl rfl mw_2521 mw_2523 sl_172 mw_18 mw_2524 ⟨by decide +kernel, by decide +kernel, by decide +kernel⟩ (by decide) d_Mo_begin_481)) (os_l (so_goto d_Mo_begin_484 (by decide)))) (os_n (os_l (so_iload_n d_Mo_begin_487 rfl)) (os_n (os_l (so_bipush d_Mo_begin_488 (by decide))) (os_l (so_icne d_Mo_begin_490 (by decide)))))) (os_n (os_n (os_l (so_aload_n d_Mo_begin_493 rfl)) (os_l (so_iconst d_Mo_begin_494 (by decide)))) (os_n (os_l (so_putZ (C := R_Mo) (T := F_Mo) (N := 87) (j := 75) in_Mo t_Mo_ok n_Mo rfl (by decide) mw_1869 rfl (by decide +kernel) d_Mo_begin_495)) (os_n (os_l (so_goto d_Mo_begin_498 (by decide))) (os_l (so_iload_n d_Mo_begin_501 rfl)))))))) (os_n (os_n (os_n (os_n (os_n (os_l (so_bipush d_Mo_begin_502 (by decide))) (os_l (so_icne d_Mo_begin_504 (by decide)))) (os_n (os_l (so_aload_n d_Mo_begin_507 rfl)) (os_n (os_l (so_iload d_Mo_begin_508)) (os_l (so_callV (iv := mi_Mo_perform) rfl rfl rfl mw_2474 mw_2476 sl_162 mw_18 mw_2477 ⟨by decide +kernel, by decide +kernel, by decide +kernel⟩ (by decide) d_Mo_begin_510))))) (os_n (os_n (os_l (so_istore d_Mo_begin_513 (by decide))) (os_l (so_iload d_Mo_begin_515))) (os_n (os_l (so_ifle d_Mo_begin_517 (by decide))) (os_n (os_l (so_aload_n d_Mo_begin_520 rfl)) (os_l (so_iload_n d_Mo_begin_521 rfl)))))) (os_n (os_n (os_n (os_l (so_bipush d_Mo_begin_522 (by decide))) (os_l (so_iload d_Mo_begin_524))) (os_n (os_l (so_iadd d_Mo_begin_526)) (os_n (os_l (so_callV (iv := mi_Mo_raise) rfl rfl rfl mw_2521 mw_2523 sl_172 mw_18 mw_2524 ⟨by decide +kernel, by decide +kernel, by decide +kernel⟩ (by decide) d_Mo_begin_527)) (os_l (so_aload_n d_Mo_begin_530 rfl))))) (os_n (os_n (os_l (so_get (C := R_Mo) (T := F_Mo) (N := 87) (j := 62) in_Mo rfl (by decide) mw_1856 d_Mo_begin_531)) (os_l (so_iload_n d_Mo_begin_534 rfl))) (os_n (os_l (so_iaload d_Mo_begin_535)) (os_n (os_l (so_istore d_Mo_begin_536 (by decide))) (os_l (so_iload d_Mo_begin_538))))))) (os_n (os_n (os_n (os_n (os_l (so_iconst d_Mo_begin_540 (by decide))) (os_l (so_iceq d_Mo_begin_541 (by decide)))) (os_n (os_l (so_aload_n d_Mo_begin_544 rfl)) (os_n (os_l (so_get (C := R_Mo) (T := F_Mo) (N := 87) (j := 64) in_Mo rfl (by decide) mw_1858 d_Mo_begin_545)) (os_l (so_iload d_Mo_begin_548))))) (os_n (os_n (os_l (so_iconst d_Mo_begin_550 (by decide))) (os_l (so_bastore d_Mo_begin_551))) (os_n (os_l (so_aload_n d_Mo_begin_552 rfl)) (os_n (os_l (so_get (C := R_Mo) (T := F_Mo) (N := 87) (j := 66) in_Mo rfl (by decide) mw_1860 d_Mo_begin_553)) (os_l (so_iload d_Mo_begin_556)))))) (os_n (os_n (os_n (os_l (so_iconst d_Mo_begin_558 (by decide))) (os_l (so_bastore d_Mo_begin_559))) (os_n (os_l (so_aload_n d_Mo_begin_560 rfl)) (os_n (os_l (so_get (C := R_Mo) (T := F_Mo) (N := 87) (j := 63) in_Mo rfl (by decide) mw_1857 d_Mo_begin_561)) (os_l (so_iload d_Mo_begin_564))))) (os_n (os_n (os_l (so_iaload d_Mo_begin_566)) (os_l (so_istore d_Mo_begin_567 (by decide)))) (os_n (os_l (so_goto d_Mo_begin_569 (by decide))) (os_n (os_l (so_iconst d_Mo_begin_572 (by decide))) (os_l (so_zreturn rfl d_Mo_begin_573)))))))))))
abbrev t_Mo_go_287 : List UInt8 := 172 :: []
abbrev t_Mo_go_286 : List UInt8 := 4 :: t_Mo_go_287
abbrev t_Mo_go_285 : List UInt8 := 172 :: t_Mo_go_286
abbrev t_Mo_go_284 : List UInt8 := 6 :: t_Mo_go_285
abbrev t_Mo_go_283 : List UInt8 := 172 :: t_Mo_go_284
abbrev t_Mo_go_282 : List UInt8 := 3 :: t_Mo_go_283
abbrev t_Mo_go_279 : List UInt8 := 167 :: 0 :: 4 :: t_Mo_go_282
abbrev t_Mo_go_278 : List UInt8 := 4 :: t_Mo_go_279
abbrev t_Mo_go_275 : List UInt8 := 153 :: 0 :: 7 :: t_Mo_go_278
abbrev t_Mo_go_274 : List UInt8 := 51 :: t_Mo_go_275
abbrev t_Mo_go_273 : List UInt8 := 27 :: t_Mo_go_274
abbrev t_Mo_go_270 : List UInt8 := 180 :: 0 :: 178 :: t_Mo_go_273
abbrev t_Mo_go_269 : List UInt8 := 42 :: t_Mo_go_270
abbrev t_Mo_go_268 : List UInt8 := 172 :: t_Mo_go_269
abbrev t_Mo_go_265 : List UInt8 := 182 :: 2 :: 42 :: t_Mo_go_268
abbrev t_Mo_go_264 : List UInt8 := 27 :: t_Mo_go_265
abbrev t_Mo_go_263 : List UInt8 := 42 :: t_Mo_go_264
abbrev t_Mo_go_262 : List UInt8 := 172 :: t_Mo_go_263
abbrev t_Mo_go_261 : List UInt8 := 4 :: t_Mo_go_262
abbrev t_Mo_go_258 : List UInt8 := 167 :: 255 :: 205 :: t_Mo_go_261
abbrev t_Mo_go_257 : List UInt8 := 84 :: t_Mo_go_258
abbrev t_Mo_go_256 : List UInt8 := 3 :: t_Mo_go_257
abbrev t_Mo_go_255 : List UInt8 := 46 :: t_Mo_go_256
abbrev t_Mo_go_254 : List UInt8 := 27 :: t_Mo_go_255
abbrev t_Mo_go_251 : List UInt8 := 180 :: 0 :: 169 :: t_Mo_go_254
abbrev t_Mo_go_250 : List UInt8 := 42 :: t_Mo_go_251
abbrev t_Mo_go_247 : List UInt8 := 180 :: 0 :: 175 :: t_Mo_go_250
abbrev t_Mo_go_246 : List UInt8 := 42 :: t_Mo_go_247
abbrev t_Mo_go_245 : List UInt8 := 80 :: t_Mo_go_246
abbrev t_Mo_go_244 : List UInt8 := 101 :: t_Mo_go_245
abbrev t_Mo_go_243 : List UInt8 := 10 :: t_Mo_go_244
abbrev t_Mo_go_242 : List UInt8 := 47 :: t_Mo_go_243
abbrev t_Mo_go_241 : List UInt8 := 92 :: t_Mo_go_242
abbrev t_Mo_go_240 : List UInt8 := 27 :: t_Mo_go_241
abbrev t_Mo_go_237 : List UInt8 := 180 :: 0 :: 190 :: t_Mo_go_240
abbrev t_Mo_go_236 : List UInt8 := 42 :: t_Mo_go_237
abbrev t_Mo_go_235 : List UInt8 := 172 :: t_Mo_go_236
abbrev t_Mo_go_234 : List UInt8 := 28 :: t_Mo_go_235
abbrev t_Mo_go_231 : List UInt8 := 159 :: 0 :: 5 :: t_Mo_go_234
abbrev t_Mo_go_230 : List UInt8 := 4 :: t_Mo_go_231
abbrev t_Mo_go_229 : List UInt8 := 28 :: t_Mo_go_230
abbrev t_Mo_go_228 : List UInt8 := 61 :: t_Mo_go_229
abbrev t_Mo_go_225 : List UInt8 := 182 :: 2 :: 33 :: t_Mo_go_228
abbrev t_Mo_go_224 : List UInt8 := 46 :: t_Mo_go_225
abbrev t_Mo_go_223 : List UInt8 := 27 :: t_Mo_go_224
abbrev t_Mo_go_220 : List UInt8 := 180 :: 0 :: 169 :: t_Mo_go_223
abbrev t_Mo_go_219 : List UInt8 := 42 :: t_Mo_go_220
abbrev t_Mo_go_218 : List UInt8 := 42 :: t_Mo_go_219
abbrev t_Mo_go_215 : List UInt8 := 155 :: 0 :: 46 :: t_Mo_go_218
abbrev t_Mo_go_214 : List UInt8 := 148 :: t_Mo_go_215
abbrev t_Mo_go_213 : List UInt8 := 10 :: t_Mo_go_214
abbrev t_Mo_go_212 : List UInt8 := 47 :: t_Mo_go_213
abbrev t_Mo_go_211 : List UInt8 := 27 :: t_Mo_go_212
abbrev t_Mo_go_208 : List UInt8 := 180 :: 0 :: 190 :: t_Mo_go_211
abbrev t_Mo_go_207 : List UInt8 := 42 :: t_Mo_go_208
abbrev t_Mo_go_206 : List UInt8 := 172 :: t_Mo_go_207
abbrev t_Mo_go_203 : List UInt8 := 182 :: 2 :: 33 :: t_Mo_go_206
abbrev t_Mo_go_202 : List UInt8 := 46 :: t_Mo_go_203
abbrev t_Mo_go_201 : List UInt8 := 27 :: t_Mo_go_202
abbrev t_Mo_go_198 : List UInt8 := 180 :: 0 :: 184 :: t_Mo_go_201
abbrev t_Mo_go_197 : List UInt8 := 42 :: t_Mo_go_198
abbrev t_Mo_go_196 : List UInt8 := 42 :: t_Mo_go_197
abbrev t_Mo_go_193 : List UInt8 := 167 :: 0 :: 13 :: t_Mo_go_196
abbrev t_Mo_go_192 : List UInt8 := 4 :: t_Mo_go_193
abbrev t_Mo_go_189 : List UInt8 := 160 :: 0 :: 7 :: t_Mo_go_192
abbrev t_Mo_go_188 : List UInt8 := 2 :: t_Mo_go_189
abbrev t_Mo_go_187 : List UInt8 := 46 :: t_Mo_go_188
abbrev t_Mo_go_186 : List UInt8 := 27 :: t_Mo_go_187
abbrev t_Mo_go_183 : List UInt8 := 180 :: 0 :: 184 :: t_Mo_go_186
abbrev t_Mo_go_182 : List UInt8 := 42 :: t_Mo_go_183
abbrev t_Mo_go_181 : List UInt8 := 172 :: t_Mo_go_182
abbrev t_Mo_go_178 : List UInt8 := 182 :: 2 :: 39 :: t_Mo_go_181
abbrev t_Mo_go_177 : List UInt8 := 27 :: t_Mo_go_178
abbrev t_Mo_go_176 : List UInt8 := 42 :: t_Mo_go_177
abbrev t_Mo_go_175 : List UInt8 := 172 :: t_Mo_go_176
abbrev t_Mo_go_172 : List UInt8 := 182 :: 2 :: 36 :: t_Mo_go_175
abbrev t_Mo_go_171 : List UInt8 := 27 :: t_Mo_go_172
abbrev t_Mo_go_170 : List UInt8 := 42 :: t_Mo_go_171
abbrev t_Mo_go_169 : List UInt8 := 172 :: t_Mo_go_170
abbrev t_Mo_go_168 : List UInt8 := 3 :: t_Mo_go_169
abbrev t_Mo_go_165 : List UInt8 := 167 :: 0 :: 4 :: t_Mo_go_168
abbrev t_Mo_go_164 : List UInt8 := 4 :: t_Mo_go_165
abbrev t_Mo_go_161 : List UInt8 := 155 :: 0 :: 7 :: t_Mo_go_164
abbrev t_Mo_go_160 : List UInt8 := 148 :: t_Mo_go_161
abbrev t_Mo_go_159 : List UInt8 := 47 :: t_Mo_go_160
abbrev t_Mo_go_158 : List UInt8 := 27 :: t_Mo_go_159
abbrev t_Mo_go_155 : List UInt8 := 180 :: 0 :: 190 :: t_Mo_go_158
abbrev t_Mo_go_154 : List UInt8 := 42 :: t_Mo_go_155
abbrev t_Mo_go_153 : List UInt8 := 133 :: t_Mo_go_154
abbrev t_Mo_go_152 : List UInt8 := 100 :: t_Mo_go_153
abbrev t_Mo_go_151 : List UInt8 := 46 :: t_Mo_go_152
abbrev t_Mo_go_150 : List UInt8 := 27 :: t_Mo_go_151
abbrev t_Mo_go_147 : List UInt8 := 180 :: 0 :: 187 :: t_Mo_go_150
abbrev t_Mo_go_146 : List UInt8 := 42 :: t_Mo_go_147
abbrev t_Mo_go_143 : List UInt8 := 180 :: 2 :: 8 :: t_Mo_go_146
abbrev t_Mo_go_142 : List UInt8 := 42 :: t_Mo_go_143
abbrev t_Mo_go_141 : List UInt8 := 172 :: t_Mo_go_142
abbrev t_Mo_go_140 : List UInt8 := 4 :: t_Mo_go_141
abbrev t_Mo_go_137 : List UInt8 := 167 :: 255 :: 211 :: t_Mo_go_140
abbrev t_Mo_go_136 : List UInt8 := 79 :: t_Mo_go_137
abbrev t_Mo_go_135 : List UInt8 := 46 :: t_Mo_go_136
abbrev t_Mo_go_134 : List UInt8 := 46 :: t_Mo_go_135
abbrev t_Mo_go_133 : List UInt8 := 27 :: t_Mo_go_134
abbrev t_Mo_go_130 : List UInt8 := 180 :: 0 :: 184 :: t_Mo_go_133
abbrev t_Mo_go_129 : List UInt8 := 42 :: t_Mo_go_130
abbrev t_Mo_go_126 : List UInt8 := 180 :: 0 :: 172 :: t_Mo_go_129
abbrev t_Mo_go_125 : List UInt8 := 42 :: t_Mo_go_126
abbrev t_Mo_go_124 : List UInt8 := 27 :: t_Mo_go_125
abbrev t_Mo_go_121 : List UInt8 := 180 :: 0 :: 184 :: t_Mo_go_124
abbrev t_Mo_go_120 : List UInt8 := 42 :: t_Mo_go_121
abbrev t_Mo_go_119 : List UInt8 := 172 :: t_Mo_go_120
abbrev t_Mo_go_118 : List UInt8 := 28 :: t_Mo_go_119
abbrev t_Mo_go_115 : List UInt8 := 159 :: 0 :: 5 :: t_Mo_go_118
abbrev t_Mo_go_114 : List UInt8 := 4 :: t_Mo_go_115
abbrev t_Mo_go_113 : List UInt8 := 28 :: t_Mo_go_114
abbrev t_Mo_go_112 : List UInt8 := 61 :: t_Mo_go_113
abbrev t_Mo_go_109 : List UInt8 := 182 :: 2 :: 33 :: t_Mo_go_112
abbrev t_Mo_go_108 : List UInt8 := 46 :: t_Mo_go_109
abbrev t_Mo_go_107 : List UInt8 := 27 :: t_Mo_go_108
abbrev t_Mo_go_104 : List UInt8 := 180 :: 0 :: 184 :: t_Mo_go_107
abbrev t_Mo_go_103 : List UInt8 := 42 :: t_Mo_go_104
abbrev t_Mo_go_102 : List UInt8 := 42 :: t_Mo_go_103
abbrev t_Mo_go_99 : List UInt8 := 159 :: 0 :: 41 :: t_Mo_go_102
abbrev t_Mo_go_98 : List UInt8 := 2 :: t_Mo_go_99
abbrev t_Mo_go_97 : List UInt8 := 46 :: t_Mo_go_98
abbrev t_Mo_go_96 : List UInt8 := 27 :: t_Mo_go_97
abbrev t_Mo_go_93 : List UInt8 := 180 :: 0 :: 184 :: t_Mo_go_96
abbrev t_Mo_go_92 : List UInt8 := 42 :: t_Mo_go_93
abbrev t_Mo_go_24 : List UInt8 := 170 :: 0 :: 0 :: 0 :: 0 :: 0 :: 1 :: 6 :: 0 :: 0 :: 0 :: 11 :: 0 :: 0 :: 0 :: 23 :: 0 :: 0 :: 0 :: 118 :: 0 :: 0 :: 0 :: 146 :: 0 :: 0 :: 0 :: 239 :: 0 :: 0 :: 0 :: 152 :: 0 :: 0 :: 0 :: 158 :: 0 :: 0 :: 0 :: 183 :: 0 :: 0 :: 0 :: 158 :: 0 :: 0 :: 0 :: 245 :: 0 :: 0 :: 0 :: 158 :: 0 :: 0 :: 1 :: 4 :: 0 :: 0 :: 1 :: 6 :: 0 :: 0 :: 1 :: 6 :: 0 :: 0 :: 0 :: 68 :: t_Mo_go_92
abbrev t_Mo_go_21 : List UInt8 := 182 :: 2 :: 14 :: t_Mo_go_24
abbrev t_Mo_go_20 : List UInt8 := 27 :: t_Mo_go_21
abbrev t_Mo_go_19 : List UInt8 := 42 :: t_Mo_go_20
abbrev t_Mo_go_18 : List UInt8 := 172 :: t_Mo_go_19
abbrev t_Mo_go_17 : List UInt8 := 5 :: t_Mo_go_18
abbrev t_Mo_go_14 : List UInt8 := 154 :: 0 :: 5 :: t_Mo_go_17
abbrev t_Mo_go_11 : List UInt8 := 182 :: 2 :: 30 :: t_Mo_go_14
abbrev t_Mo_go_10 : List UInt8 := 27 :: t_Mo_go_11
abbrev t_Mo_go_9 : List UInt8 := 42 :: t_Mo_go_10
abbrev t_Mo_go_6 : List UInt8 := 154 :: 0 :: 13 :: t_Mo_go_9
abbrev t_Mo_go_5 : List UInt8 := 51 :: t_Mo_go_6
abbrev t_Mo_go_4 : List UInt8 := 27 :: t_Mo_go_5
abbrev t_Mo_go_1 : List UInt8 := 180 :: 0 :: 175 :: t_Mo_go_4
abbrev t_Mo_go_0 : List UInt8 := 42 :: t_Mo_go_1
theorem a_Mo_go_0 : dk_at b_Mo_go 0 t_Mo_go_0 := dk_start (by decide +kernel)
theorem a_Mo_go_1 : dk_at b_Mo_go 1 t_Mo_go_1 := dk_go 1 a_Mo_go_0 rfl
theorem a_Mo_go_4 : dk_at b_Mo_go 4 t_Mo_go_4 := dk_go 3 a_Mo_go_1 rfl
theorem a_Mo_go_5 : dk_at b_Mo_go 5 t_Mo_go_5 := dk_go 1 a_Mo_go_4 rfl
theorem a_Mo_go_6 : dk_at b_Mo_go 6 t_Mo_go_6 := dk_go 1 a_Mo_go_5 rfl
theorem a_Mo_go_9 : dk_at b_Mo_go 9 t_Mo_go_9 := dk_go 3 a_Mo_go_6 rfl
theorem a_Mo_go_10 : dk_at b_Mo_go 10 t_Mo_go_10 := dk_go 1 a_Mo_go_9 rfl
theorem a_Mo_go_11 : dk_at b_Mo_go 11 t_Mo_go_11 := dk_go 1 a_Mo_go_10 rfl
theorem a_Mo_go_14 : dk_at b_Mo_go 14 t_Mo_go_14 := dk_go 3 a_Mo_go_11 rfl
theorem a_Mo_go_17 : dk_at b_Mo_go 17 t_Mo_go_17 := dk_go 3 a_Mo_go_14 rfl
theorem a_Mo_go_18 : dk_at b_Mo_go 18 t_Mo_go_18 := dk_go 1 a_Mo_go_17 rfl
theorem a_Mo_go_19 : dk_at b_Mo_go 19 t_Mo_go_19 := dk_go 1 a_Mo_go_18 rfl
theorem a_Mo_go_20 : dk_at b_Mo_go 20 t_Mo_go_20 := dk_go 1 a_Mo_go_19 rfl
theorem a_Mo_go_21 : dk_at b_Mo_go 21 t_Mo_go_21 := dk_go 1 a_Mo_go_20 rfl
theorem a_Mo_go_24 : dk_at b_Mo_go 24 t_Mo_go_24 := dk_go 3 a_Mo_go_21 rfl
theorem a_Mo_go_92 : dk_at b_Mo_go 92 t_Mo_go_92 := dk_go 68 a_Mo_go_24 rfl
theorem a_Mo_go_93 : dk_at b_Mo_go 93 t_Mo_go_93 := dk_go 1 a_Mo_go_92 rfl
theorem a_Mo_go_96 : dk_at b_Mo_go 96 t_Mo_go_96 := dk_go 3 a_Mo_go_93 rfl
theorem a_Mo_go_97 : dk_at b_Mo_go 97 t_Mo_go_97 := dk_go 1 a_Mo_go_96 rfl
theorem a_Mo_go_98 : dk_at b_Mo_go 98 t_Mo_go_98 := dk_go 1 a_Mo_go_97 rfl
theorem a_Mo_go_99 : dk_at b_Mo_go 99 t_Mo_go_99 := dk_go 1 a_Mo_go_98 rfl
theorem a_Mo_go_102 : dk_at b_Mo_go 102 t_Mo_go_102 := dk_go 3 a_Mo_go_99 rfl
theorem a_Mo_go_103 : dk_at b_Mo_go 103 t_Mo_go_103 := dk_go 1 a_Mo_go_102 rfl
theorem a_Mo_go_104 : dk_at b_Mo_go 104 t_Mo_go_104 := dk_go 1 a_Mo_go_103 rfl
theorem a_Mo_go_107 : dk_at b_Mo_go 107 t_Mo_go_107 := dk_go 3 a_Mo_go_104 rfl
theorem a_Mo_go_108 : dk_at b_Mo_go 108 t_Mo_go_108 := dk_go 1 a_Mo_go_107 rfl
theorem a_Mo_go_109 : dk_at b_Mo_go 109 t_Mo_go_109 := dk_go 1 a_Mo_go_108 rfl
theorem a_Mo_go_112 : dk_at b_Mo_go 112 t_Mo_go_112 := dk_go 3 a_Mo_go_109 rfl
theorem a_Mo_go_113 : dk_at b_Mo_go 113 t_Mo_go_113 := dk_go 1 a_Mo_go_112 rfl
theorem a_Mo_go_114 : dk_at b_Mo_go 114 t_Mo_go_114 := dk_go 1 a_Mo_go_113 rfl
theorem a_Mo_go_115 : dk_at b_Mo_go 115 t_Mo_go_115 := dk_go 1 a_Mo_go_114 rfl
theorem a_Mo_go_118 : dk_at b_Mo_go 118 t_Mo_go_118 := dk_go 3 a_Mo_go_115 rfl
theorem a_Mo_go_119 : dk_at b_Mo_go 119 t_Mo_go_119 := dk_go 1 a_Mo_go_118 rfl
theorem a_Mo_go_120 : dk_at b_Mo_go 120 t_Mo_go_120 := dk_go 1 a_Mo_go_119 rfl
theorem a_Mo_go_121 : dk_at b_Mo_go 121 t_Mo_go_121 := dk_go 1 a_Mo_go_120 rfl
theorem a_Mo_go_124 : dk_at b_Mo_go 124 t_Mo_go_124 := dk_go 3 a_Mo_go_121 rfl
theorem a_Mo_go_125 : dk_at b_Mo_go 125 t_Mo_go_125 := dk_go 1 a_Mo_go_124 rfl
theorem a_Mo_go_126 : dk_at b_Mo_go 126 t_Mo_go_126 := dk_go 1 a_Mo_go_125 rfl
theorem a_Mo_go_129 : dk_at b_Mo_go 129 t_Mo_go_129 := dk_go 3 a_Mo_go_126 rfl
theorem a_Mo_go_130 : dk_at b_Mo_go 130 t_Mo_go_130 := dk_go 1 a_Mo_go_129 rfl
theorem a_Mo_go_133 : dk_at b_Mo_go 133 t_Mo_go_133 := dk_go 3 a_Mo_go_130 rfl
theorem a_Mo_go_134 : dk_at b_Mo_go 134 t_Mo_go_134 := dk_go 1 a_Mo_go_133 rfl
theorem a_Mo_go_135 : dk_at b_Mo_go 135 t_Mo_go_135 := dk_go 1 a_Mo_go_134 rfl
theorem a_Mo_go_136 : dk_at b_Mo_go 136 t_Mo_go_136 := dk_go 1 a_Mo_go_135 rfl
theorem a_Mo_go_137 : dk_at b_Mo_go 137 t_Mo_go_137 := dk_go 1 a_Mo_go_136 rfl
theorem a_Mo_go_140 : dk_at b_Mo_go 140 t_Mo_go_140 := dk_go 3 a_Mo_go_137 rfl
theorem a_Mo_go_141 : dk_at b_Mo_go 141 t_Mo_go_141 := dk_go 1 a_Mo_go_140 rfl
theorem a_Mo_go_142 : dk_at b_Mo_go 142 t_Mo_go_142 := dk_go 1 a_Mo_go_141 rfl
theorem a_Mo_go_143 : dk_at b_Mo_go 143 t_Mo_go_143 := dk_go 1 a_Mo_go_142 rfl
theorem a_Mo_go_146 : dk_at b_Mo_go 146 t_Mo_go_146 := dk_go 3 a_Mo_go_143 rfl
theorem a_Mo_go_147 : dk_at b_Mo_go 147 t_Mo_go_147 := dk_go 1 a_Mo_go_146 rfl
theorem a_Mo_go_150 : dk_at b_Mo_go 150 t_Mo_go_150 := dk_go 3 a_Mo_go_147 rfl
theorem a_Mo_go_151 : dk_at b_Mo_go 151 t_Mo_go_151 := dk_go 1 a_Mo_go_150 rfl
theorem a_Mo_go_152 : dk_at b_Mo_go 152 t_Mo_go_152 := dk_go 1 a_Mo_go_151 rfl
theorem a_Mo_go_153 : dk_at b_Mo_go 153 t_Mo_go_153 := dk_go 1 a_Mo_go_152 rfl
theorem a_Mo_go_154 : dk_at b_Mo_go 154 t_Mo_go_154 := dk_go 1 a_Mo_go_153 rfl
theorem a_Mo_go_155 : dk_at b_Mo_go 155 t_Mo_go_155 := dk_go 1 a_Mo_go_154 rfl
theorem a_Mo_go_158 : dk_at b_Mo_go 158 t_Mo_go_158 := dk_go 3 a_Mo_go_155 rfl
theorem a_Mo_go_159 : dk_at b_Mo_go 159 t_Mo_go_159 := dk_go 1 a_Mo_go_158 rfl
theorem a_Mo_go_160 : dk_at b_Mo_go 160 t_Mo_go_160 := dk_go 1 a_Mo_go_159 rfl
theorem a_Mo_go_161 : dk_at b_Mo_go 161 t_Mo_go_161 := dk_go 1 a_Mo_go_160 rfl
theorem a_Mo_go_164 : dk_at b_Mo_go 164 t_Mo_go_164 := dk_go 3 a_Mo_go_161 rfl
theorem a_Mo_go_165 : dk_at b_Mo_go 165 t_Mo_go_165 := dk_go 1 a_Mo_go_164 rfl
theorem a_Mo_go_168 : dk_at b_Mo_go 168 t_Mo_go_168 := dk_go 3 a_Mo_go_165 rfl
theorem a_Mo_go_169 : dk_at b_Mo_go 169 t_Mo_go_169 := dk_go 1 a_Mo_go_168 rfl
theorem a_Mo_go_170 : dk_at b_Mo_go 170 t_Mo_go_170 := dk_go 1 a_Mo_go_169 rfl
theorem a_Mo_go_171 : dk_at b_Mo_go 171 t_Mo_go_171 := dk_go 1 a_Mo_go_170 rfl
theorem a_Mo_go_172 : dk_at b_Mo_go 172 t_Mo_go_172 := dk_go 1 a_Mo_go_171 rfl
theorem a_Mo_go_175 : dk_at b_Mo_go 175 t_Mo_go_175 := dk_go 3 a_Mo_go_172 rfl
theorem a_Mo_go_176 : dk_at b_Mo_go 176 t_Mo_go_176 := dk_go 1 a_Mo_go_175 rfl
theorem a_Mo_go_177 : dk_at b_Mo_go 177 t_Mo_go_177 := dk_go 1 a_Mo_go_176 rfl
theorem a_Mo_go_178 : dk_at b_Mo_go 178 t_Mo_go_178 := dk_go 1 a_Mo_go_177 rfl
theorem a_Mo_go_181 : dk_at b_Mo_go 181 t_Mo_go_181 := dk_go 3 a_Mo_go_178 rfl
theorem a_Mo_go_182 : dk_at b_Mo_go 182 t_Mo_go_182 := dk_go 1 a_Mo_go_181 rfl
theorem a_Mo_go_183 : dk_at b_Mo_go 183 t_Mo_go_183 := dk_go 1 a_Mo_go_182 rfl
theorem a_Mo_go_186 : dk_at b_Mo_go 186 t_Mo_go_186 := dk_go 3 a_Mo_go_183 rfl
theorem a_Mo_go_187 : dk_at b_Mo_go 187 t_Mo_go_187 := dk_go 1 a_Mo_go_186 rfl
theorem a_Mo_go_188 : dk_at b_Mo_go 188 t_Mo_go_188 := dk_go 1 a_Mo_go_187 rfl
theorem a_Mo_go_189 : dk_at b_Mo_go 189 t_Mo_go_189 := dk_go 1 a_Mo_go_188 rfl
theorem a_Mo_go_192 : dk_at b_Mo_go 192 t_Mo_go_192 := dk_go 3 a_Mo_go_189 rfl
theorem a_Mo_go_193 : dk_at b_Mo_go 193 t_Mo_go_193 := dk_go 1 a_Mo_go_192 rfl
theorem a_Mo_go_196 : dk_at b_Mo_go 196 t_Mo_go_196 := dk_go 3 a_Mo_go_193 rfl
theorem a_Mo_go_197 : dk_at b_Mo_go 197 t_Mo_go_197 := dk_go 1 a_Mo_go_196 rfl
theorem a_Mo_go_198 : dk_at b_Mo_go 198 t_Mo_go_198 := dk_go 1 a_Mo_go_197 rfl
theorem a_Mo_go_201 : dk_at b_Mo_go 201 t_Mo_go_201 := dk_go 3 a_Mo_go_198 rfl
theorem a_Mo_go_202 : dk_at b_Mo_go 202 t_Mo_go_202 := dk_go 1 a_Mo_go_201 rfl
theorem a_Mo_go_203 : dk_at b_Mo_go 203 t_Mo_go_203 := dk_go 1 a_Mo_go_202 rfl
theorem a_Mo_go_206 : dk_at b_Mo_go 206 t_Mo_go_206 := dk_go 3 a_Mo_go_203 rfl
theorem a_Mo_go_207 : dk_at b_Mo_go 207 t_Mo_go_207 := dk_go 1 a_Mo_go_206 rfl
theorem a_Mo_go_208 : dk_at b_Mo_go 208 t_Mo_go_208 := dk_go 1 a_Mo_go_207 rfl
theorem a_Mo_go_211 : dk_at b_Mo_go 211 t_Mo_go_211 := dk_go 3 a_Mo_go_208 rfl
theorem a_Mo_go_212 : dk_at b_Mo_go 212 t_Mo_go_212 := dk_go 1 a_Mo_go_211 rfl
theorem a_Mo_go_213 : dk_at b_Mo_go 213 t_Mo_go_213 := dk_go 1 a_Mo_go_212 rfl
theorem a_Mo_go_214 : dk_at b_Mo_go 214 t_Mo_go_214 := dk_go 1 a_Mo_go_213 rfl
theorem a_Mo_go_215 : dk_at b_Mo_go 215 t_Mo_go_215 := dk_go 1 a_Mo_go_214 rfl
theorem a_Mo_go_218 : dk_at b_Mo_go 218 t_Mo_go_218 := dk_go 3 a_Mo_go_215 rfl
theorem a_Mo_go_219 : dk_at b_Mo_go 219 t_Mo_go_219 := dk_go 1 a_Mo_go_218 rfl
theorem a_Mo_go_220 : dk_at b_Mo_go 220 t_Mo_go_220 := dk_go 1 a_Mo_go_219 rfl
theorem a_Mo_go_223 : dk_at b_Mo_go 223 t_Mo_go_223 := dk_go 3 a_Mo_go_220 rfl
theorem a_Mo_go_224 : dk_at b_Mo_go 224 t_Mo_go_224 := dk_go 1 a_Mo_go_223 rfl
theorem a_Mo_go_225 : dk_at b_Mo_go 225 t_Mo_go_225 := dk_go 1 a_Mo_go_224 rfl
theorem a_Mo_go_228 : dk_at b_Mo_go 228 t_Mo_go_228 := dk_go 3 a_Mo_go_225 rfl
theorem a_Mo_go_229 : dk_at b_Mo_go 229 t_Mo_go_229 := dk_go 1 a_Mo_go_228 rfl
theorem a_Mo_go_230 : dk_at b_Mo_go 230 t_Mo_go_230 := dk_go 1 a_Mo_go_229 rfl
theorem a_Mo_go_231 : dk_at b_Mo_go 231 t_Mo_go_231 := dk_go 1 a_Mo_go_230 rfl
theorem a_Mo_go_234 : dk_at b_Mo_go 234 t_Mo_go_234 := dk_go 3 a_Mo_go_231 rfl
theorem a_Mo_go_235 : dk_at b_Mo_go 235 t_Mo_go_235 := dk_go 1 a_Mo_go_234 rfl
theorem a_Mo_go_236 : dk_at b_Mo_go 236 t_Mo_go_236 := dk_go 1 a_Mo_go_235 rfl
theorem a_Mo_go_237 : dk_at b_Mo_go 237 t_Mo_go_237 := dk_go 1 a_Mo_go_236 rfl
theorem a_Mo_go_240 : dk_at b_Mo_go 240 t_Mo_go_240 := dk_go 3 a_Mo_go_237 rfl
theorem a_Mo_go_241 : dk_at b_Mo_go 241 t_Mo_go_241 := dk_go 1 a_Mo_go_240 rfl
theorem a_Mo_go_242 : dk_at b_Mo_go 242 t_Mo_go_242 := dk_go 1 a_Mo_go_241 rfl
theorem a_Mo_go_243 : dk_at b_Mo_go 243 t_Mo_go_243 := dk_go 1 a_Mo_go_242 rfl
theorem a_Mo_go_244 : dk_at b_Mo_go 244 t_Mo_go_244 := dk_go 1 a_Mo_go_243 rfl
theorem a_Mo_go_245 : dk_at b_Mo_go 245 t_Mo_go_245 := dk_go 1 a_Mo_go_244 rfl
theorem a_Mo_go_246 : dk_at b_Mo_go 246 t_Mo_go_246 := dk_go 1 a_Mo_go_245 rfl
theorem a_Mo_go_247 : dk_at b_Mo_go 247 t_Mo_go_247 := dk_go 1 a_Mo_go_246 rfl
theorem a_Mo_go_250 : dk_at b_Mo_go 250 t_Mo_go_250 := dk_go 3 a_Mo_go_247 rfl
theorem a_Mo_go_251 : dk_at b_Mo_go 251 t_Mo_go_251 := dk_go 1 a_Mo_go_250 rfl
theorem a_Mo_go_254 : dk_at b_Mo_go 254 t_Mo_go_254 := dk_go 3 a_Mo_go_251 rfl
theorem a_Mo_go_255 : dk_at b_Mo_go 255 t_Mo_go_255 := dk_go 1 a_Mo_go_254 rfl
theorem a_Mo_go_256 : dk_at b_Mo_go 256 t_Mo_go_256 := dk_go 1 a_Mo_go_255 rfl
theorem a_Mo_go_257 : dk_at b_Mo_go 257 t_Mo_go_257 := dk_go 1 a_Mo_go_256 rfl
theorem a_Mo_go_258 : dk_at b_Mo_go 258 t_Mo_go_258 := dk_go 1 a_Mo_go_257 rfl
theorem a_Mo_go_261 : dk_at b_Mo_go 261 t_Mo_go_261 := dk_go 3 a_Mo_go_258 rfl
theorem a_Mo_go_262 : dk_at b_Mo_go 262 t_Mo_go_262 := dk_go 1 a_Mo_go_261 rfl
theorem a_Mo_go_263 : dk_at b_Mo_go 263 t_Mo_go_263 := dk_go 1 a_Mo_go_262 rfl
theorem a_Mo_go_264 : dk_at b_Mo_go 264 t_Mo_go_264 := dk_go 1 a_Mo_go_263 rfl
theorem a_Mo_go_265 : dk_at b_Mo_go 265 t_Mo_go_265 := dk_go 1 a_Mo_go_264 rfl
theorem a_Mo_go_268 : dk_at b_Mo_go 268 t_Mo_go_268 := dk_go 3 a_Mo_go_265 rfl
theorem a_Mo_go_269 : dk_at b_Mo_go 269 t_Mo_go_269 := dk_go 1 a_Mo_go_268 rfl
theorem a_Mo_go_270 : dk_at b_Mo_go 270 t_Mo_go_270 := dk_go 1 a_Mo_go_269 rfl
theorem a_Mo_go_273 : dk_at b_Mo_go 273 t_Mo_go_273 := dk_go 3 a_Mo_go_270 rfl
theorem a_Mo_go_274 : dk_at b_Mo_go 274 t_Mo_go_274 := dk_go 1 a_Mo_go_273 rfl
theorem a_Mo_go_275 : dk_at b_Mo_go 275 t_Mo_go_275 := dk_go 1 a_Mo_go_274 rfl
theorem a_Mo_go_278 : dk_at b_Mo_go 278 t_Mo_go_278 := dk_go 3 a_Mo_go_275 rfl
theorem a_Mo_go_279 : dk_at b_Mo_go 279 t_Mo_go_279 := dk_go 1 a_Mo_go_278 rfl
theorem a_Mo_go_282 : dk_at b_Mo_go 282 t_Mo_go_282 := dk_go 3 a_Mo_go_279 rfl
theorem a_Mo_go_283 : dk_at b_Mo_go 283 t_Mo_go_283 := dk_go 1 a_Mo_go_282 rfl
theorem a_Mo_go_284 : dk_at b_Mo_go 284 t_Mo_go_284 := dk_go 1 a_Mo_go_283 rfl
theorem a_Mo_go_285 : dk_at b_Mo_go 285 t_Mo_go_285 := dk_go 1 a_Mo_go_284 rfl
theorem a_Mo_go_286 : dk_at b_Mo_go 286 t_Mo_go_286 := dk_go 1 a_Mo_go_285 rfl
theorem a_Mo_go_287 : dk_at b_Mo_go 287 t_Mo_go_287 := dk_go 1 a_Mo_go_286 rfl
theorem d_Mo_go_0 : decode b_Mo_go 0 = .ok (.aload_n 0, 1) := dk_0 a_Mo_go_0 (dko_42 _)
theorem d_Mo_go_1 : decode b_Mo_go 1 = .ok (.getfield 175, 3) := dk_U2 a_Mo_go_1 (dko_180 _) rfl
theorem d_Mo_go_4 : decode b_Mo_go 4 = .ok (.iload_n 1, 1) := dk_0 a_Mo_go_4 (dko_27 _)
theorem d_Mo_go_5 : decode b_Mo_go 5 = .ok (.baload, 1) := dk_0 a_Mo_go_5 (dko_51 _)
theorem d_Mo_go_6 : decode b_Mo_go 6 = .ok (.ifCond .ne 13, 3) := dk_S2 a_Mo_go_6 (dko_154 _) (by decide +kernel)
theorem d_Mo_go_9 : decode b_Mo_go 9 = .ok (.aload_n 0, 1) := dk_0 a_Mo_go_9 (dko_42 _)
theorem d_Mo_go_10 : decode b_Mo_go 10 = .ok (.iload_n 1, 1) := dk_0 a_Mo_go_10 (dko_27 _)
theorem d_Mo_go_11 : decode b_Mo_go 11 = .ok (.invokevirtual 542, 3) := dk_U2 a_Mo_go_11 (dko_182 _) rfl
theorem d_Mo_go_14 : decode b_Mo_go 14 = .ok (.ifCond .ne 5, 3) := dk_S2 a_Mo_go_14 (dko_154 _) (by decide +kernel)
theorem d_Mo_go_17 : decode b_Mo_go 17 = .ok (.iconst 2, 1) := dk_0 a_Mo_go_17 (dko_5 _)
theorem d_Mo_go_18 : decode b_Mo_go 18 = .ok (.ireturn, 1) := dk_0 a_Mo_go_18 (dko_172 _)
theorem d_Mo_go_19 : decode b_Mo_go 19 = .ok (.aload_n 0, 1) := dk_0 a_Mo_go_19 (dko_42 _)
theorem d_Mo_go_20 : decode b_Mo_go 20 = .ok (.iload_n 1, 1) := dk_0 a_Mo_go_20 (dko_27 _)
theorem d_Mo_go_21 : decode b_Mo_go 21 = .ok (.invokevirtual 526, 3) := dk_U2 a_Mo_go_21 (dko_182 _) rfl
theorem d_Mo_go_24 : decode b_Mo_go 24 = .ok (.tableswitch 262 11 23 #[118, 146, 239, 152, 158, 183, 158, 245, 158, 260, 262, 262, 68], 68) := by decide +kernel
theorem d_Mo_go_92 : decode b_Mo_go 92 = .ok (.aload_n 0, 1) := dk_0 a_Mo_go_92 (dko_42 _)
theorem d_Mo_go_93 : decode b_Mo_go 93 = .ok (.getfield 184, 3) := dk_U2 a_Mo_go_93 (dko_180 _) rfl
theorem d_Mo_go_96 : decode b_Mo_go 96 = .ok (.iload_n 1, 1) := dk_0 a_Mo_go_96 (dko_27 _)
theorem d_Mo_go_97 : decode b_Mo_go 97 = .ok (.iaload, 1) := dk_0 a_Mo_go_97 (dko_46 _)
theorem d_Mo_go_98 : decode b_Mo_go 98 = .ok (.iconst (-1), 1) := dk_0 a_Mo_go_98 (dko_2 _)
theorem d_Mo_go_99 : decode b_Mo_go 99 = .ok (.if_icmp .eq 41, 3) := dk_S2 a_Mo_go_99 (dko_159 _) (by decide +kernel)
theorem d_Mo_go_102 : decode b_Mo_go 102 = .ok (.aload_n 0, 1) := dk_0 a_Mo_go_102 (dko_42 _)
theorem d_Mo_go_103 : decode b_Mo_go 103 = .ok (.aload_n 0, 1) := dk_0 a_Mo_go_103 (dko_42 _)
theorem d_Mo_go_104 : decode b_Mo_go 104 = .ok (.getfield 184, 3) := dk_U2 a_Mo_go_104 (dko_180 _) rfl
theorem d_Mo_go_107 : decode b_Mo_go 107 = .ok (.iload_n 1, 1) := dk_0 a_Mo_go_107 (dko_27 _)
theorem d_Mo_go_108 : decode b_Mo_go 108 = .ok (.iaload, 1) := dk_0 a_Mo_go_108 (dko_46 _)
theorem d_Mo_go_109 : decode b_Mo_go 109 = .ok (.invokevirtual 545, 3) := dk_U2 a_Mo_go_109 (dko_182 _) rfl
theorem d_Mo_go_112 : decode b_Mo_go 112 = .ok (.istore_n 2, 1) := dk_0 a_Mo_go_112 (dko_61 _)
theorem d_Mo_go_113 : decode b_Mo_go 113 = .ok (.iload_n 2, 1) := dk_0 a_Mo_go_113 (dko_28 _)
theorem d_Mo_go_114 : decode b_Mo_go 114 = .ok (.iconst 1, 1) := dk_0 a_Mo_go_114 (dko_4 _)
theorem d_Mo_go_115 : decode b_Mo_go 115 = .ok (.if_icmp .eq 5, 3) := dk_S2 a_Mo_go_115 (dko_159 _) (by decide +kernel)
theorem d_Mo_go_118 : decode b_Mo_go 118 = .ok (.iload_n 2, 1) := dk_0 a_Mo_go_118 (dko_28 _)
theorem d_Mo_go_119 : decode b_Mo_go 119 = .ok (.ireturn, 1) := dk_0 a_Mo_go_119 (dko_172 _)
theorem d_Mo_go_120 : decode b_Mo_go 120 = .ok (.aload_n 0, 1) := dk_0 a_Mo_go_120 (dko_42 _)
theorem d_Mo_go_121 : decode b_Mo_go 121 = .ok (.getfield 184, 3) := dk_U2 a_Mo_go_121 (dko_180 _) rfl
theorem d_Mo_go_124 : decode b_Mo_go 124 = .ok (.iload_n 1, 1) := dk_0 a_Mo_go_124 (dko_27 _)
theorem d_Mo_go_125 : decode b_Mo_go 125 = .ok (.aload_n 0, 1) := dk_0 a_Mo_go_125 (dko_42 _)
theorem d_Mo_go_126 : decode b_Mo_go 126 = .ok (.getfield 172, 3) := dk_U2 a_Mo_go_126 (dko_180 _) rfl
theorem d_Mo_go_129 : decode b_Mo_go 129 = .ok (.aload_n 0, 1) := dk_0 a_Mo_go_129 (dko_42 _)
theorem d_Mo_go_130 : decode b_Mo_go 130 = .ok (.getfield 184, 3) := dk_U2 a_Mo_go_130 (dko_180 _) rfl
theorem d_Mo_go_133 : decode b_Mo_go 133 = .ok (.iload_n 1, 1) := dk_0 a_Mo_go_133 (dko_27 _)
theorem d_Mo_go_134 : decode b_Mo_go 134 = .ok (.iaload, 1) := dk_0 a_Mo_go_134 (dko_46 _)
theorem d_Mo_go_135 : decode b_Mo_go 135 = .ok (.iaload, 1) := dk_0 a_Mo_go_135 (dko_46 _)
theorem d_Mo_go_136 : decode b_Mo_go 136 = .ok (.iastore, 1) := dk_0 a_Mo_go_136 (dko_79 _)
theorem d_Mo_go_137 : decode b_Mo_go 137 = .ok (.goto (-45), 3) := dk_S2 a_Mo_go_137 (dko_167 _) (by decide +kernel)
theorem d_Mo_go_140 : decode b_Mo_go 140 = .ok (.iconst 1, 1) := dk_0 a_Mo_go_140 (dko_4 _)
theorem d_Mo_go_141 : decode b_Mo_go 141 = .ok (.ireturn, 1) := dk_0 a_Mo_go_141 (dko_172 _)
theorem d_Mo_go_142 : decode b_Mo_go 142 = .ok (.aload_n 0, 1) := dk_0 a_Mo_go_142 (dko_42 _)
theorem d_Mo_go_143 : decode b_Mo_go 143 = .ok (.getfield 520, 3) := dk_U2 a_Mo_go_143 (dko_180 _) rfl
theorem d_Mo_go_146 : decode b_Mo_go 146 = .ok (.aload_n 0, 1) := dk_0 a_Mo_go_146 (dko_42 _)
theorem d_Mo_go_147 : decode b_Mo_go 147 = .ok (.getfield 187, 3) := dk_U2 a_Mo_go_147 (dko_180 _) rfl
theorem d_Mo_go_150 : decode b_Mo_go 150 = .ok (.iload_n 1, 1) := dk_0 a_Mo_go_150 (dko_27 _)
theorem d_Mo_go_151 : decode b_Mo_go 151 = .ok (.iaload, 1) := dk_0 a_Mo_go_151 (dko_46 _)
theorem d_Mo_go_152 : decode b_Mo_go 152 = .ok (.isub, 1) := dk_0 a_Mo_go_152 (dko_100 _)
theorem d_Mo_go_153 : decode b_Mo_go 153 = .ok (.i2l, 1) := dk_0 a_Mo_go_153 (dko_133 _)
theorem d_Mo_go_154 : decode b_Mo_go 154 = .ok (.aload_n 0, 1) := dk_0 a_Mo_go_154 (dko_42 _)
theorem d_Mo_go_155 : decode b_Mo_go 155 = .ok (.getfield 190, 3) := dk_U2 a_Mo_go_155 (dko_180 _) rfl
theorem d_Mo_go_158 : decode b_Mo_go 158 = .ok (.iload_n 1, 1) := dk_0 a_Mo_go_158 (dko_27 _)
theorem d_Mo_go_159 : decode b_Mo_go 159 = .ok (.laload, 1) := dk_0 a_Mo_go_159 (dko_47 _)
theorem d_Mo_go_160 : decode b_Mo_go 160 = .ok (.lcmp, 1) := dk_0 a_Mo_go_160 (dko_148 _)
theorem d_Mo_go_161 : decode b_Mo_go 161 = .ok (.ifCond .lt 7, 3) := dk_S2 a_Mo_go_161 (dko_155 _) (by decide +kernel)
theorem d_Mo_go_164 : decode b_Mo_go 164 = .ok (.iconst 1, 1) := dk_0 a_Mo_go_164 (dko_4 _)
theorem d_Mo_go_165 : decode b_Mo_go 165 = .ok (.goto 4, 3) := dk_S2 a_Mo_go_165 (dko_167 _) (by decide +kernel)
theorem d_Mo_go_168 : decode b_Mo_go 168 = .ok (.iconst 0, 1) := dk_0 a_Mo_go_168 (dko_3 _)
theorem d_Mo_go_169 : decode b_Mo_go 169 = .ok (.ireturn, 1) := dk_0 a_Mo_go_169 (dko_172 _)
theorem d_Mo_go_170 : decode b_Mo_go 170 = .ok (.aload_n 0, 1) := dk_0 a_Mo_go_170 (dko_42 _)
theorem d_Mo_go_171 : decode b_Mo_go 171 = .ok (.iload_n 1, 1) := dk_0 a_Mo_go_171 (dko_27 _)
theorem d_Mo_go_172 : decode b_Mo_go 172 = .ok (.invokevirtual 548, 3) := dk_U2 a_Mo_go_172 (dko_182 _) rfl
theorem d_Mo_go_175 : decode b_Mo_go 175 = .ok (.ireturn, 1) := dk_0 a_Mo_go_175 (dko_172 _)
theorem d_Mo_go_176 : decode b_Mo_go 176 = .ok (.aload_n 0, 1) := dk_0 a_Mo_go_176 (dko_42 _)
theorem d_Mo_go_177 : decode b_Mo_go 177 = .ok (.iload_n 1, 1) := dk_0 a_Mo_go_177 (dko_27 _)
theorem d_Mo_go_178 : decode b_Mo_go 178 = .ok (.invokevirtual 551, 3) := dk_U2 a_Mo_go_178 (dko_182 _) rfl
theorem d_Mo_go_181 : decode b_Mo_go 181 = .ok (.ireturn, 1) := dk_0 a_Mo_go_181 (dko_172 _)
theorem d_Mo_go_182 : decode b_Mo_go 182 = .ok (.aload_n 0, 1) := dk_0 a_Mo_go_182 (dko_42 _)
theorem d_Mo_go_183 : decode b_Mo_go 183 = .ok (.getfield 184, 3) := dk_U2 a_Mo_go_183 (dko_180 _) rfl
theorem d_Mo_go_186 : decode b_Mo_go 186 = .ok (.iload_n 1, 1) := dk_0 a_Mo_go_186 (dko_27 _)
theorem d_Mo_go_187 : decode b_Mo_go 187 = .ok (.iaload, 1) := dk_0 a_Mo_go_187 (dko_46 _)
theorem d_Mo_go_188 : decode b_Mo_go 188 = .ok (.iconst (-1), 1) := dk_0 a_Mo_go_188 (dko_2 _)
theorem d_Mo_go_189 : decode b_Mo_go 189 = .ok (.if_icmp .ne 7, 3) := dk_S2 a_Mo_go_189 (dko_160 _) (by decide +kernel)
theorem d_Mo_go_192 : decode b_Mo_go 192 = .ok (.iconst 1, 1) := dk_0 a_Mo_go_192 (dko_4 _)
theorem d_Mo_go_193 : decode b_Mo_go 193 = .ok (.goto 13, 3) := dk_S2 a_Mo_go_193 (dko_167 _) (by decide +kernel)
theorem d_Mo_go_196 : decode b_Mo_go 196 = .ok (.aload_n 0, 1) := dk_0 a_Mo_go_196 (dko_42 _)
theorem d_Mo_go_197 : decode b_Mo_go 197 = .ok (.aload_n 0, 1) := dk_0 a_Mo_go_197 (dko_42 _)
theorem d_Mo_go_198 : decode b_Mo_go 198 = .ok (.getfield 184, 3) := dk_U2 a_Mo_go_198 (dko_180 _) rfl
theorem d_Mo_go_201 : decode b_Mo_go 201 = .ok (.iload_n 1, 1) := dk_0 a_Mo_go_201 (dko_27 _)
theorem d_Mo_go_202 : decode b_Mo_go 202 = .ok (.iaload, 1) := dk_0 a_Mo_go_202 (dko_46 _)
theorem d_Mo_go_203 : decode b_Mo_go 203 = .ok (.invokevirtual 545, 3) := dk_U2 a_Mo_go_203 (dko_182 _) rfl
theorem d_Mo_go_206 : decode b_Mo_go 206 = .ok (.ireturn, 1) := dk_0 a_Mo_go_206 (dko_172 _)
theorem d_Mo_go_207 : decode b_Mo_go 207 = .ok (.aload_n 0, 1) := dk_0 a_Mo_go_207 (dko_42 _)
theorem d_Mo_go_208 : decode b_Mo_go 208 = .ok (.getfield 190, 3) := dk_U2 a_Mo_go_208 (dko_180 _) rfl
theorem d_Mo_go_211 : decode b_Mo_go 211 = .ok (.iload_n 1, 1) := dk_0 a_Mo_go_211 (dko_27 _)
theorem d_Mo_go_212 : decode b_Mo_go 212 = .ok (.laload, 1) := dk_0 a_Mo_go_212 (dko_47 _)
theorem d_Mo_go_213 : decode b_Mo_go 213 = .ok (.lconst 1, 1) := dk_0 a_Mo_go_213 (dko_10 _)
theorem d_Mo_go_214 : decode b_Mo_go 214 = .ok (.lcmp, 1) := dk_0 a_Mo_go_214 (dko_148 _)
theorem d_Mo_go_215 : decode b_Mo_go 215 = .ok (.ifCond .lt 46, 3) := dk_S2 a_Mo_go_215 (dko_155 _) (by decide +kernel)
theorem d_Mo_go_218 : decode b_Mo_go 218 = .ok (.aload_n 0, 1) := dk_0 a_Mo_go_218 (dko_42 _)
theorem d_Mo_go_219 : decode b_Mo_go 219 = .ok (.aload_n 0, 1) := dk_0 a_Mo_go_219 (dko_42 _)
theorem d_Mo_go_220 : decode b_Mo_go 220 = .ok (.getfield 169, 3) := dk_U2 a_Mo_go_220 (dko_180 _) rfl
theorem d_Mo_go_223 : decode b_Mo_go 223 = .ok (.iload_n 1, 1) := dk_0 a_Mo_go_223 (dko_27 _)
theorem d_Mo_go_224 : decode b_Mo_go 224 = .ok (.iaload, 1) := dk_0 a_Mo_go_224 (dko_46 _)
theorem d_Mo_go_225 : decode b_Mo_go 225 = .ok (.invokevirtual 545, 3) := dk_U2 a_Mo_go_225 (dko_182 _) rfl
theorem d_Mo_go_228 : decode b_Mo_go 228 = .ok (.istore_n 2, 1) := dk_0 a_Mo_go_228 (dko_61 _)
theorem d_Mo_go_229 : decode b_Mo_go 229 = .ok (.iload_n 2, 1) := dk_0 a_Mo_go_229 (dko_28 _)
theorem d_Mo_go_230 : decode b_Mo_go 230 = .ok (.iconst 1, 1) := dk_0 a_Mo_go_230 (dko_4 _)
theorem d_Mo_go_231 : decode b_Mo_go 231 = .ok (.if_icmp .eq 5, 3) := dk_S2 a_Mo_go_231 (dko_159 _) (by decide +kernel)
theorem d_Mo_go_234 : decode b_Mo_go 234 = .ok (.iload_n 2, 1) := dk_0 a_Mo_go_234 (dko_28 _)
theorem d_Mo_go_235 : decode b_Mo_go 235 = .ok (.ireturn, 1) := dk_0 a_Mo_go_235 (dko_172 _)
theorem d_Mo_go_236 : decode b_Mo_go 236 = .ok (.aload_n 0, 1) := dk_0 a_Mo_go_236 (dko_42 _)
theorem d_Mo_go_237 : decode b_Mo_go 237 = .ok (.getfield 190, 3) := dk_U2 a_Mo_go_237 (dko_180 _) rfl
theorem d_Mo_go_240 : decode b_Mo_go 240 = .ok (.iload_n 1, 1) := dk_0 a_Mo_go_240 (dko_27 _)
theorem d_Mo_go_241 : decode b_Mo_go 241 = .ok (.dup2, 1) := dk_0 a_Mo_go_241 (dko_92 _)
theorem d_Mo_go_242 : decode b_Mo_go 242 = .ok (.laload, 1) := dk_0 a_Mo_go_242 (dko_47 _)
theorem d_Mo_go_243 : decode b_Mo_go 243 = .ok (.lconst 1, 1) := dk_0 a_Mo_go_243 (dko_10 _)
theorem d_Mo_go_244 : decode b_Mo_go 244 = .ok (.lsub, 1) := dk_0 a_Mo_go_244 (dko_101 _)
theorem d_Mo_go_245 : decode b_Mo_go 245 = .ok (.lastore, 1) := dk_0 a_Mo_go_245 (dko_80 _)
theorem d_Mo_go_246 : decode b_Mo_go 246 = .ok (.aload_n 0, 1) := dk_0 a_Mo_go_246 (dko_42 _)
theorem d_Mo_go_247 : decode b_Mo_go 247 = .ok (.getfield 175, 3) := dk_U2 a_Mo_go_247 (dko_180 _) rfl
theorem d_Mo_go_250 : decode b_Mo_go 250 = .ok (.aload_n 0, 1) := dk_0 a_Mo_go_250 (dko_42 _)
theorem d_Mo_go_251 : decode b_Mo_go 251 = .ok (.getfield 169, 3) := dk_U2 a_Mo_go_251 (dko_180 _) rfl
theorem d_Mo_go_254 : decode b_Mo_go 254 = .ok (.iload_n 1, 1) := dk_0 a_Mo_go_254 (dko_27 _)
theorem d_Mo_go_255 : decode b_Mo_go 255 = .ok (.iaload, 1) := dk_0 a_Mo_go_255 (dko_46 _)
theorem d_Mo_go_256 : decode b_Mo_go 256 = .ok (.iconst 0, 1) := dk_0 a_Mo_go_256 (dko_3 _)
theorem d_Mo_go_257 : decode b_Mo_go 257 = .ok (.bastore, 1) := dk_0 a_Mo_go_257 (dko_84 _)
theorem d_Mo_go_258 : decode b_Mo_go 258 = .ok (.goto (-51), 3) := dk_S2 a_Mo_go_258 (dko_167 _) (by decide +kernel)
theorem d_Mo_go_261 : decode b_Mo_go 261 = .ok (.iconst 1, 1) := dk_0 a_Mo_go_261 (dko_4 _)
theorem d_Mo_go_262 : decode b_Mo_go 262 = .ok (.ireturn, 1) := dk_0 a_Mo_go_262 (dko_172 _)
theorem d_Mo_go_263 : decode b_Mo_go 263 = .ok (.aload_n 0, 1) := dk_0 a_Mo_go_263 (dko_42 _)
theorem d_Mo_go_264 : decode b_Mo_go 264 = .ok (.iload_n 1, 1) := dk_0 a_Mo_go_264 (dko_27 _)
theorem d_Mo_go_265 : decode b_Mo_go 265 = .ok (.invokevirtual 554, 3) := dk_U2 a_Mo_go_265 (dko_182 _) rfl
theorem d_Mo_go_268 : decode b_Mo_go 268 = .ok (.ireturn, 1) := dk_0 a_Mo_go_268 (dko_172 _)
theorem d_Mo_go_269 : decode b_Mo_go 269 = .ok (.aload_n 0, 1) := dk_0 a_Mo_go_269 (dko_42 _)
theorem d_Mo_go_270 : decode b_Mo_go 270 = .ok (.getfield 178, 3) := dk_U2 a_Mo_go_270 (dko_180 _) rfl
theorem d_Mo_go_273 : decode b_Mo_go 273 = .ok (.iload_n 1, 1) := dk_0 a_Mo_go_273 (dko_27 _)
theorem d_Mo_go_274 : decode b_Mo_go 274 = .ok (.baload, 1) := dk_0 a_Mo_go_274 (dko_51 _)
theorem d_Mo_go_275 : decode b_Mo_go 275 = .ok (.ifCond .eq 7, 3) := dk_S2 a_Mo_go_275 (dko_153 _) (by decide +kernel)
theorem d_Mo_go_278 : decode b_Mo_go 278 = .ok (.iconst 1, 1) := dk_0 a_Mo_go_278 (dko_4 _)
theorem d_Mo_go_279 : decode b_Mo_go 279 = .ok (.goto 4, 3) := dk_S2 a_Mo_go_279 (dko_167 _) (by decide +kernel)
theorem d_Mo_go_282 : decode b_Mo_go 282 = .ok (.iconst 0, 1) := dk_0 a_Mo_go_282 (dko_3 _)
theorem d_Mo_go_283 : decode b_Mo_go 283 = .ok (.ireturn, 1) := dk_0 a_Mo_go_283 (dko_172 _)
theorem d_Mo_go_284 : decode b_Mo_go 284 = .ok (.iconst 3, 1) := dk_0 a_Mo_go_284 (dko_6 _)
theorem d_Mo_go_285 : decode b_Mo_go 285 = .ok (.ireturn, 1) := dk_0 a_Mo_go_285 (dko_172 _)
theorem d_Mo_go_286 : decode b_Mo_go 286 = .ok (.iconst 1, 1) := dk_0 a_Mo_go_286 (dko_4 _)
theorem d_Mo_go_287 : decode b_Mo_go 287 = .ok (.ireturn, 1) := dk_0 a_Mo_go_287 (dko_172 _)
set_option maxHeartbeats 4000000 in
set_option maxRecDepth 100000 in
theorem ok_Mo_go (pc : Nat) : OpS mt mi_Mo_go pc (cs_Mo_go pc) := (os_n (os_n (os_n (os_n (os_n (os_n (os_n (os_l (so_aload_n d_Mo_go_0 rfl)) (os_l (so_get (C := R_Mo) (T := F_Mo) (N := 87) (j := 64) in_Mo rfl (by decide) mw_1858 d_Mo_go_1))) (os_n (os_l (so_iload_n d_Mo_go_4 rfl)) (os_l (so_baload d_Mo_go_5)))) (os_n (os_n (os_l (so_ifne d_Mo_go_6 (by decide))) (os_l (so_aload_n d_Mo_go_9 rfl))) (os_n (os_l (so_iload_n d_Mo_go_10 rfl)) (os_l (so_callV (iv := mi_Mo_begin) rfl rfl rfl mw_2643 mw_2645 sl_188 mw_18 mw_2646 ⟨by decide +kernel, by decide +kernel, by decide +kernel⟩ (by decide) d_Mo_go_11))))) (os_n (os_n (os_n (os_l (so_ifne d_Mo_go_14 (by decide))) (os_l (so_iconst d_Mo_go_17 (by decide)))) (os_n (os_l (so_ireturn rfl d_Mo_go_18)) (os_l (so_aload_n d_Mo_go_19 rfl)))) (os_n (os_n (os_l (so_iload_n d_Mo_go_20 rfl)) (os_l (so_callV (iv := mi_Mo_kind) rfl rfl rfl mw_2627 mw_2629 sl_184 mw_18 mw_2630 ⟨by decide +kernel, by decide +kernel, by decide +kernel⟩ (by decide) d_Mo_go_21))) (os_n (os_l (so_tab d_Mo_go_24 (by decide) (by decide) (by decide))) (os_n (os_l (so_aload_n d_Mo_go_92 rfl)) (os_l (so_get (C := R_Mo) (T := F_Mo) (N := 87) (j := 67) in_Mo rfl (by decide) mw_1861 d_Mo_go_93))))))) (os_n (os_n (os_n (os_n (os_l (so_iload_n d_Mo_go_96 rfl)) (os_l (so_iaload d_Mo_go_97))) (os_n (os_l (so_iconst d_Mo_go_98 (by decide))) (os_l (so_iceq d_Mo_go_99 (by decide))))) (os_n (os_n (os_l (so_aload_n d_Mo_go_102 rfl)) (os_l (so_aload_n d_Mo_go_103 rfl))) (os_n (os_l (so_get (C := R_Mo) (T := F_Mo) (N := 87) (j := 67) in_Mo rfl (by decide) mw_1861 d_Mo_go_104)) (os_n (os_l (so_iload_n d_Mo_go_107 rfl)) (os_l (so_iaload d_Mo_go_108)))))) (os_n (os_n (os_n (os_l (so_callV (iv := mi_Mo_go) rfl rfl rfl mw_2639 mw_2641 sl_187 mw_18 mw_2642 ⟨by decide +kernel, by decide +kernel, by decide +kernel⟩ (by decide) d_Mo_go_109)) (os_l (so_istore_n d_Mo_go_112 rfl (by decide)))) (os_n (os_l (so_iload_n d_Mo_go_113 rfl)) (os_l (so_iconst d_Mo_go_114 (by decide))))) (os_n (os_n (os_l (so_iceq d_Mo_go_115 (by decide))) (os_l (so_iload_n d_Mo_go_118 rfl))) (os_n (os_l (so_ireturn rfl d_Mo_go_119)) (os_n (os_l (so_aload_n d_Mo_go_120 rfl)) (os_l (so_get (C := R_Mo) (T := F_Mo) (N := 87) (j := 67) in_Mo rfl (by decide) mw_1861 d_Mo_go_121)))))))) (os_n (os_n (os_n (os_n (os_n (os_l (so_iload_n d_Mo_go_124 rfl)) (os_l (so_aload_n d_Mo_go_125 rfl))) (os_n (os_l (so_get (C := R_Mo) (T := F_Mo) (N := 87) (j := 63) in_Mo rfl (by decide) mw_1857 d_Mo_go_126)) (os_l (so_aload_n d_Mo_go_129 rfl)))) (os_n (os_n (os_l (so_get (C := R_Mo) (T := F_Mo) (N := 87) (j := 67) in_Mo rfl (by decide) mw_1861 d_Mo_go_130)) (os_l (so_iload_n d_Mo_go_133 rfl))) (os_n (os_l (so_iaload d_Mo_go_134)) (os_n (os_l (so_iaload d_Mo_go_135)) (os_l (so_iastore d_Mo_go_136)))))) (os_n (os_n (os_n (os_l (so_goto d_Mo_go_137 (by decide))) (os_l (so_iconst d_Mo_go_140 (by decide)))) (os_n (os_l (so_ireturn rfl d_Mo_go_141)) (os_l (so_aload_n d_Mo_go_142 rfl)))) (os_n (os_n (os_l (so_get (C := R_Mo) (T := F_Mo) (N := 87) (j := 74) in_Mo rfl (by decide) mw_1868 d_Mo_go_143)) (os_l (so_aload_n d_Mo_go_146 rfl))) (os_n (os_l (so_get (C := R_Mo) (T := F_Mo) (N := 87) (j := 68) in_Mo rfl (by decide) mw_1862 d_Mo_go_147)) (os_n (os_l (so_iload_n d_Mo_go_150 rfl)) (os_l (so_iaload d_Mo_go_151))))))) (os_n (os_n (os_n (os_n (os_l (so_isub d_Mo_go_152)) (os_l (so_i2l d_Mo_go_153))) (os_n (os_l (so_aload_n d_Mo_go_154 rfl)) (os_l (so_get (C := R_Mo) (T := F_Mo) (N := 87) (j := 69) in_Mo rfl (by decide) mw_1863 d_Mo_go_155)))) (os_n (os_n (os_l (so_iload_n d_Mo_go_158 rfl)) (os_l (so_laload d_Mo_go_159))) (os_n (os_l (so_lcmp d_Mo_go_160)) (os_n (os_l (so_iflt d_Mo_go_161 (by decide))) (os_l (so_iconst d_Mo_go_164 (by decide))))))) (os_n (os_n (os_n (os_l (so_goto d_Mo_go_165 (by decide))) (os_l (so_iconst d_Mo_go_168 (by decide)))) (os_n (os_l (so_ireturn rfl d_Mo_go_169)) (os_l (so_aload_n d_Mo_go_170 rfl)))) (os_n (os_n (os_l (so_iload_n d_Mo_go_171 rfl)) (os_l (so_callV (iv := mi_Mo_goUntil) rfl rfl rfl mw_2647 mw_2649 sl_189 mw_18 mw_2650 ⟨by decide +kernel, by decide +kernel, by decide +kernel⟩ (by decide) d_Mo_go_172))) (os_n (os_l (so_ireturn rfl d_Mo_go_175)) (os_n (os_l (so_aload_n d_Mo_go_176 rfl)) (os_l (so_iload_n d_Mo_go_177 rfl))))))))) (os_n (os_n (os_n (os_n (os_n (os_n (os_l (so_callV (iv := mi_Mo_goPar) rfl rfl rfl mw_2651 mw_2653 sl_190 mw_18 mw_2654 ⟨by decide +kernel, by decide +kernel, by decide +kernel⟩ (by decide) d_Mo_go_178)) (os_l (so_ireturn rfl d_Mo_go_181))) (os_n (os_l (so_aload_n d_Mo_go_182 rfl)) (os_l (so_get (C := R_Mo) (T := F_Mo) (N := 87) (j := 67) in_Mo rfl (by decide) mw_1861 d_Mo_go_183)))) (os_n (os_n (os_l (so_iload_n d_Mo_go_186 rfl)) (os_l (so_iaload d_Mo_go_187))) (os_n (os_l (so_iconst d_Mo_go_188 (by decide))) (os_n (os_l (so_icne d_Mo_go_189 (by decide))) (os_l (so_iconst d_Mo_go_192 (by decide))))))) (os_n (os_n (os_n (os_l (so_goto d_Mo_go_193 (by decide))) (os_l (so_aload_n d_Mo_go_196 rfl))) (os_n (os_l (so_aload_n d_Mo_go_197 rfl)) (os_l (so_get (C := R_Mo) (T := F_Mo) (N := 87) (j := 67) in_Mo rfl (by decide) mw_1861 d_Mo_go_198)))) (os_n (os_n (os_l (so_iload_n d_Mo_go_201 rfl)) (os_l (so_iaload d_Mo_go_202))) (os_n (os_l (so_callV (iv := mi_Mo_go) rfl rfl rfl mw_2639 mw_2641 sl_187 mw_18 mw_2642 ⟨by decide +kernel, by decide +kernel, by decide +kernel⟩ (by decide) d_Mo_go_203)) (os_n (os_l (so_ireturn rfl d_Mo_go_206)) (os_l (so_aload_n d_Mo_go_207 rfl))))))) (os_n (os_n (os_n (os_n (os_l (so_get (C := R_Mo) (T := F_Mo) (N := 87) (j := 69) in_Mo rfl (by decide) mw_1863 d_Mo_go_208)) (os_l (so_iload_n d_Mo_go_211 rfl))) (os_n (os_l (so_laload d_Mo_go_212)) (os_l (so_lconst d_Mo_go_213 (by decide))))) (os_n (os_n (os_l (so_lcmp d_Mo_go_214)) (os_l (so_iflt d_Mo_go_215 (by decide)))) (os_n (os_l (so_aload_n d_Mo_go_218 rfl)) (os_n (os_l (so_aload_n d_Mo_go_219 rfl)) (os_l (so_get (C := R_Mo) (T := F_Mo) (N := 87) (j := 62) in_Mo rfl (by decide) mw_1856 d_Mo_go_220)))))) (os_n (os_n (os_n (os_l (so_iload_n d_Mo_go_223 rfl)) (os_l (so_iaload d_Mo_go_224))) (os_n (os_l (so_callV (iv := mi_Mo_go) rfl rfl rfl mw_2639 mw_2641 sl_187 mw_18 mw_2642 ⟨by decide +kernel, by decide +kernel, by decide +kernel⟩ (by decide) d_Mo_go_225)) (os_l (so_istore_n d_Mo_go_228 rfl (by decide))))) (os_n (os_n (os_l (so_iload_n d_Mo_go_229 rfl)) (os_l (so_iconst d_Mo_go_230 (by decide)))) (os_n (os_l (so_iceq d_Mo_go_231 (by decide))) (os_n (os_l (so_iload_n d_Mo_go_234 rfl)) (os_l (so_ireturn rfl d_Mo_go_235)))))))) (os_n (os_n (os_n (os_n (os_n (os_l (so_aload_n d_Mo_go_236 rfl)) (os_l (so_get (C := R_Mo) (T := F_Mo) (N := 87) (j := 69) in_Mo rfl (by decide) mw_1863 d_Mo_go_237))) (os_n (os_l (so_iload_n d_Mo_go_240 rfl)) (os_l (so_dup2 d_Mo_go_241)))) (os_n (os_n (os_l (so_laload d_Mo_go_242)) (os_l (so_lconst d_Mo_go_243 (by decide)))) (os_n (os_l (so_lsub d_Mo_go_244)) (os_n (os_l (so_lastore d_Mo_go_245)) (os_l (so_aload_n d_Mo_go_246 rfl)))))) (os_n (os_n (os_n (os_l (so_get (C := R_Mo) (T := F_Mo) (N := 87) (j := 64) in_Mo rfl (by decide) mw_1858 d_Mo_go_247)) (os_l (so_aload_n d_Mo_go_250 rfl))) (os_n (os_l (so_get (C := R_Mo) (T := F_Mo) (N := 87) (j := 62) in_Mo rfl (by decide) mw_1856 d_Mo_go_251)) (os_l (so_iload_n d_Mo_go_254 rfl)))) (os_n (os_n (os_l (so_iaload d_Mo_go_255)) (os_l (so_iconst d_Mo_go_256 (by decide)))) (os_n (os_l (so_bastore d_Mo_go_257)) (os_n (os_l (so_goto d_Mo_go_258 (by decide))) (os_l (so_iconst d_Mo_go_261 (by decide)))))))) (os_n (os_n (os_n (os_n (os_l (so_ireturn rfl d_Mo_go_262)) (os_l (so_aload_n d_Mo_go_263 rfl))) (os_n (os_l (so_iload_n d_Mo_go_264 rfl)) (os_l (so_callV (iv := mi_Mo_goRamp) rfl rfl rfl mw_2655 mw_2657 sl_191 mw_18 mw_2658 ⟨by decide +kernel, by decide +kernel, by decide +kernel⟩ (by decide) d_Mo_go_265)))) (os_n (os_n (os_l (so_ireturn rfl d_Mo_go_268)) (os_l (so_aload_n d_Mo_go_269 rfl))) (os_n (os_l (so_get (C := R_Mo) (T := F_Mo) (N := 87) (j := 65) in_Mo rfl (by decide) mw_1859 d_Mo_go_270)) (os_n (os_l (so_iload_n d_Mo_go_273 rfl)) (os_l (so_baload d_Mo_go_274)))))) (os_n (os_n (os_n (os_l (so_ifeq d_Mo_go_275 (by decide))) (os_l (so_iconst d_Mo_go_278 (by decide)))) (os_n (os_l (so_goto d_Mo_go_279 (by decide))) (os_l (so_iconst d_Mo_go_282 (by decide))))) (os_n (os_n (os_l (so_ireturn rfl d_Mo_go_283)) (os_l (so_iconst d_Mo_go_284 (by decide)))) (os_n (os_l (so_ireturn rfl d_Mo_go_285)) (os_n (os_l (so_iconst d_Mo_go_286 (by decide))) (os_l (so_ireturn rfl d_Mo_go_287))))))))))
abbrev t_Mo_goUntil_81 : List UInt8 := 172 :: []
abbrev t_Mo_goUntil_80 : List UInt8 := 3 :: t_Mo_goUntil_81
abbrev t_Mo_goUntil_77 : List UInt8 := 167 :: 0 :: 4 :: t_Mo_goUntil_80
abbrev t_Mo_goUntil_76 : List UInt8 := 4 :: t_Mo_goUntil_77
abbrev t_Mo_goUntil_73 : List UInt8 := 153 :: 0 :: 7 :: t_Mo_goUntil_76
abbrev t_Mo_goUntil_72 : List UInt8 := 51 :: t_Mo_goUntil_73
abbrev t_Mo_goUntil_71 : List UInt8 := 27 :: t_Mo_goUntil_72
abbrev t_Mo_goUntil_68 : List UInt8 := 180 :: 0 :: 178 :: t_Mo_goUntil_71
abbrev t_Mo_goUntil_67 : List UInt8 := 42 :: t_Mo_goUntil_68
abbrev t_Mo_goUntil_66 : List UInt8 := 84 :: t_Mo_goUntil_67
abbrev t_Mo_goUntil_65 : List UInt8 := 3 :: t_Mo_goUntil_66
abbrev t_Mo_goUntil_62 : List UInt8 := 167 :: 0 :: 4 :: t_Mo_goUntil_65
abbrev t_Mo_goUntil_61 : List UInt8 := 4 :: t_Mo_goUntil_62
abbrev t_Mo_goUntil_58 : List UInt8 := 153 :: 0 :: 7 :: t_Mo_goUntil_61
abbrev t_Mo_goUntil_57 : List UInt8 := 148 :: t_Mo_goUntil_58
abbrev t_Mo_goUntil_56 : List UInt8 := 9 :: t_Mo_goUntil_57
abbrev t_Mo_goUntil_55 : List UInt8 := 32 :: t_Mo_goUntil_56
abbrev t_Mo_goUntil_54 : List UInt8 := 27 :: t_Mo_goUntil_55
abbrev t_Mo_goUntil_51 : List UInt8 := 180 :: 0 :: 178 :: t_Mo_goUntil_54
abbrev t_Mo_goUntil_50 : List UInt8 := 42 :: t_Mo_goUntil_51
abbrev t_Mo_goUntil_49 : List UInt8 := 172 :: t_Mo_goUntil_50
abbrev t_Mo_goUntil_48 : List UInt8 := 5 :: t_Mo_goUntil_49
abbrev t_Mo_goUntil_45 : List UInt8 := 153 :: 0 :: 5 :: t_Mo_goUntil_48
abbrev t_Mo_goUntil_42 : List UInt8 := 182 :: 2 :: 23 :: t_Mo_goUntil_45
abbrev t_Mo_goUntil_41 : List UInt8 := 42 :: t_Mo_goUntil_42
abbrev t_Mo_goUntil_40 : List UInt8 := 65 :: t_Mo_goUntil_41
abbrev t_Mo_goUntil_37 : List UInt8 := 182 :: 2 :: 11 :: t_Mo_goUntil_40
abbrev t_Mo_goUntil_34 : List UInt8 := 182 :: 1 :: 246 :: t_Mo_goUntil_37
abbrev t_Mo_goUntil_33 : List UInt8 := 3 :: t_Mo_goUntil_34
abbrev t_Mo_goUntil_32 : List UInt8 := 46 :: t_Mo_goUntil_33
abbrev t_Mo_goUntil_31 : List UInt8 := 27 :: t_Mo_goUntil_32
abbrev t_Mo_goUntil_28 : List UInt8 := 180 :: 0 :: 166 :: t_Mo_goUntil_31
abbrev t_Mo_goUntil_27 : List UInt8 := 42 :: t_Mo_goUntil_28
abbrev t_Mo_goUntil_24 : List UInt8 := 180 :: 0 :: 16 :: t_Mo_goUntil_27
abbrev t_Mo_goUntil_23 : List UInt8 := 42 :: t_Mo_goUntil_24
abbrev t_Mo_goUntil_22 : List UInt8 := 42 :: t_Mo_goUntil_23
abbrev t_Mo_goUntil_19 : List UInt8 := 159 :: 0 :: 48 :: t_Mo_goUntil_22
abbrev t_Mo_goUntil_16 : List UInt8 := 180 :: 2 :: 8 :: t_Mo_goUntil_19
abbrev t_Mo_goUntil_15 : List UInt8 := 42 :: t_Mo_goUntil_16
abbrev t_Mo_goUntil_14 : List UInt8 := 46 :: t_Mo_goUntil_15
abbrev t_Mo_goUntil_13 : List UInt8 := 27 :: t_Mo_goUntil_14
abbrev t_Mo_goUntil_10 : List UInt8 := 180 :: 0 :: 187 :: t_Mo_goUntil_13
abbrev t_Mo_goUntil_9 : List UInt8 := 42 :: t_Mo_goUntil_10
abbrev t_Mo_goUntil_6 : List UInt8 := 154 :: 0 :: 61 :: t_Mo_goUntil_9
abbrev t_Mo_goUntil_5 : List UInt8 := 51 :: t_Mo_goUntil_6
abbrev t_Mo_goUntil_4 : List UInt8 := 27 :: t_Mo_goUntil_5
abbrev t_Mo_goUntil_1 : List UInt8 := 180 :: 0 :: 178 :: t_Mo_goUntil_4
abbrev t_Mo_goUntil_0 : List UInt8 := 42 :: t_Mo_goUntil_1
theorem a_Mo_goUntil_0 : dk_at b_Mo_goUntil 0 t_Mo_goUntil_0 := dk_start (by decide +kernel)
theorem a_Mo_goUntil_1 : dk_at b_Mo_goUntil 1 t_Mo_goUntil_1 := dk_go 1 a_Mo_goUntil_0 rfl
theorem a_Mo_goUntil_4 : dk_at b_Mo_goUntil 4 t_Mo_goUntil_4 := dk_go 3 a_Mo_goUntil_1 rfl
theorem a_Mo_goUntil_5 : dk_at b_Mo_goUntil 5 t_Mo_goUntil_5 := dk_go 1 a_Mo_goUntil_4 rfl
theorem a_Mo_goUntil_6 : dk_at b_Mo_goUntil 6 t_Mo_goUntil_6 := dk_go 1 a_Mo_goUntil_5 rfl
theorem a_Mo_goUntil_9 : dk_at b_Mo_goUntil 9 t_Mo_goUntil_9 := dk_go 3 a_Mo_goUntil_6 rfl
theorem a_Mo_goUntil_10 : dk_at b_Mo_goUntil 10 t_Mo_goUntil_10 := dk_go 1 a_Mo_goUntil_9 rfl
theorem a_Mo_goUntil_13 : dk_at b_Mo_goUntil 13 t_Mo_goUntil_13 := dk_go 3 a_Mo_goUntil_10 rfl
theorem a_Mo_goUntil_14 : dk_at b_Mo_goUntil 14 t_Mo_goUntil_14 := dk_go 1 a_Mo_goUntil_13 rfl
theorem a_Mo_goUntil_15 : dk_at b_Mo_goUntil 15 t_Mo_goUntil_15 := dk_go 1 a_Mo_goUntil_14 rfl
theorem a_Mo_goUntil_16 : dk_at b_Mo_goUntil 16 t_Mo_goUntil_16 := dk_go 1 a_Mo_goUntil_15 rfl
theorem a_Mo_goUntil_19 : dk_at b_Mo_goUntil 19 t_Mo_goUntil_19 := dk_go 3 a_Mo_goUntil_16 rfl
theorem a_Mo_goUntil_22 : dk_at b_Mo_goUntil 22 t_Mo_goUntil_22 := dk_go 3 a_Mo_goUntil_19 rfl
theorem a_Mo_goUntil_23 : dk_at b_Mo_goUntil 23 t_Mo_goUntil_23 := dk_go 1 a_Mo_goUntil_22 rfl
theorem a_Mo_goUntil_24 : dk_at b_Mo_goUntil 24 t_Mo_goUntil_24 := dk_go 1 a_Mo_goUntil_23 rfl
theorem a_Mo_goUntil_27 : dk_at b_Mo_goUntil 27 t_Mo_goUntil_27 := dk_go 3 a_Mo_goUntil_24 rfl
theorem a_Mo_goUntil_28 : dk_at b_Mo_goUntil 28 t_Mo_goUntil_28 := dk_go 1 a_Mo_goUntil_27 rfl
theorem a_Mo_goUntil_31 : dk_at b_Mo_goUntil 31 t_Mo_goUntil_31 := dk_go 3 a_Mo_goUntil_28 rfl
theorem a_Mo_goUntil_32 : dk_at b_Mo_goUntil 32 t_Mo_goUntil_32 := dk_go 1 a_Mo_goUntil_31 rfl
theorem a_Mo_goUntil_33 : dk_at b_Mo_goUntil 33 t_Mo_goUntil_33 := dk_go 1 a_Mo_goUntil_32 rfl
theorem a_Mo_goUntil_34 : dk_at b_Mo_goUntil 34 t_Mo_goUntil_34 := dk_go 1 a_Mo_goUntil_33 rfl
theorem a_Mo_goUntil_37 : dk_at b_Mo_goUntil 37 t_Mo_goUntil_37 := dk_go 3 a_Mo_goUntil_34 rfl
theorem a_Mo_goUntil_40 : dk_at b_Mo_goUntil 40 t_Mo_goUntil_40 := dk_go 3 a_Mo_goUntil_37 rfl
theorem a_Mo_goUntil_41 : dk_at b_Mo_goUntil 41 t_Mo_goUntil_41 := dk_go 1 a_Mo_goUntil_40 rfl
theorem a_Mo_goUntil_42 : dk_at b_Mo_goUntil 42 t_Mo_goUntil_42 := dk_go 1 a_Mo_goUntil_41 rfl
theorem a_Mo_goUntil_45 : dk_at b_Mo_goUntil 45 t_Mo_goUntil_45 := dk_go 3 a_Mo_goUntil_42 rfl
theorem a_Mo_goUntil_48 : dk_at b_Mo_goUntil 48 t_Mo_goUntil_48 := dk_go 3 a_Mo_goUntil_45 rfl
theorem a_Mo_goUntil_49 : dk_at b_Mo_goUntil 49 t_Mo_goUntil_49 := dk_go 1 a_Mo_goUntil_48 rfl
theorem a_Mo_goUntil_50 : dk_at b_Mo_goUntil 50 t_Mo_goUntil_50 := dk_go 1 a_Mo_goUntil_49 rfl
theorem a_Mo_goUntil_51 : dk_at b_Mo_goUntil 51 t_Mo_goUntil_51 := dk_go 1 a_Mo_goUntil_50 rfl
theorem a_Mo_goUntil_54 : dk_at b_Mo_goUntil 54 t_Mo_goUntil_54 := dk_go 3 a_Mo_goUntil_51 rfl
theorem a_Mo_goUntil_55 : dk_at b_Mo_goUntil 55 t_Mo_goUntil_55 := dk_go 1 a_Mo_goUntil_54 rfl
theorem a_Mo_goUntil_56 : dk_at b_Mo_goUntil 56 t_Mo_goUntil_56 := dk_go 1 a_Mo_goUntil_55 rfl
theorem a_Mo_goUntil_57 : dk_at b_Mo_goUntil 57 t_Mo_goUntil_57 := dk_go 1 a_Mo_goUntil_56 rfl
theorem a_Mo_goUntil_58 : dk_at b_Mo_goUntil 58 t_Mo_goUntil_58 := dk_go 1 a_Mo_goUntil_57 rfl
theorem a_Mo_goUntil_61 : dk_at b_Mo_goUntil 61 t_Mo_goUntil_61 := dk_go 3 a_Mo_goUntil_58 rfl
theorem a_Mo_goUntil_62 : dk_at b_Mo_goUntil 62 t_Mo_goUntil_62 := dk_go 1 a_Mo_goUntil_61 rfl
theorem a_Mo_goUntil_65 : dk_at b_Mo_goUntil 65 t_Mo_goUntil_65 := dk_go 3 a_Mo_goUntil_62 rfl
theorem a_Mo_goUntil_66 : dk_at b_Mo_goUntil 66 t_Mo_goUntil_66 := dk_go 1 a_Mo_goUntil_65 rfl
theorem a_Mo_goUntil_67 : dk_at b_Mo_goUntil 67 t_Mo_goUntil_67 := dk_go 1 a_Mo_goUntil_66 rfl
theorem a_Mo_goUntil_68 : dk_at b_Mo_goUntil 68 t_Mo_goUntil_68 := dk_go 1 a_Mo_goUntil_67 rfl
theorem a_Mo_goUntil_71 : dk_at b_Mo_goUntil 71 t_Mo_goUntil_71 := dk_go 3 a_Mo_goUntil_68 rfl
theorem a_Mo_goUntil_72 : dk_at b_Mo_goUntil 72 t_Mo_goUntil_72 := dk_go 1 a_Mo_goUntil_71 rfl
theorem a_Mo_goUntil_73 : dk_at b_Mo_goUntil 73 t_Mo_goUntil_73 := dk_go 1 a_Mo_goUntil_72 rfl
theorem a_Mo_goUntil_76 : dk_at b_Mo_goUntil 76 t_Mo_goUntil_76 := dk_go 3 a_Mo_goUntil_73 rfl
theorem a_Mo_goUntil_77 : dk_at b_Mo_goUntil 77 t_Mo_goUntil_77 := dk_go 1 a_Mo_goUntil_76 rfl
theorem a_Mo_goUntil_80 : dk_at b_Mo_goUntil 80 t_Mo_goUntil_80 := dk_go 3 a_Mo_goUntil_77 rfl
theorem a_Mo_goUntil_81 : dk_at b_Mo_goUntil 81 t_Mo_goUntil_81 := dk_go 1 a_Mo_goUntil_80 rfl
theorem d_Mo_goUntil_0 : decode b_Mo_goUntil 0 = .ok (.aload_n 0, 1) := dk_0 a_Mo_goUntil_0 (dko_42 _)
theorem d_Mo_goUntil_1 : decode b_Mo_goUntil 1 = .ok (.getfield 178, 3) := dk_U2 a_Mo_goUntil_1 (dko_180 _) rfl
theorem d_Mo_goUntil_4 : decode b_Mo_goUntil 4 = .ok (.iload_n 1, 1) := dk_0 a_Mo_goUntil_4 (dko_27 _)
theorem d_Mo_goUntil_5 : decode b_Mo_goUntil 5 = .ok (.baload, 1) := dk_0 a_Mo_goUntil_5 (dko_51 _)
theorem d_Mo_goUntil_6 : decode b_Mo_goUntil 6 = .ok (.ifCond .ne 61, 3) := dk_S2 a_Mo_goUntil_6 (dko_154 _) (by decide +kernel)
theorem d_Mo_goUntil_9 : decode b_Mo_goUntil 9 = .ok (.aload_n 0, 1) := dk_0 a_Mo_goUntil_9 (dko_42 _)
theorem d_Mo_goUntil_10 : decode b_Mo_goUntil 10 = .ok (.getfield 187, 3) := dk_U2 a_Mo_goUntil_10 (dko_180 _) rfl
theorem d_Mo_goUntil_13 : decode b_Mo_goUntil 13 = .ok (.iload_n 1, 1) := dk_0 a_Mo_goUntil_13 (dko_27 _)
theorem d_Mo_goUntil_14 : decode b_Mo_goUntil 14 = .ok (.iaload, 1) := dk_0 a_Mo_goUntil_14 (dko_46 _)
theorem d_Mo_goUntil_15 : decode b_Mo_goUntil 15 = .ok (.aload_n 0, 1) := dk_0 a_Mo_goUntil_15 (dko_42 _)
theorem d_Mo_goUntil_16 : decode b_Mo_goUntil 16 = .ok (.getfield 520, 3) := dk_U2 a_Mo_goUntil_16 (dko_180 _) rfl
theorem d_Mo_goUntil_19 : decode b_Mo_goUntil 19 = .ok (.if_icmp .eq 48, 3) := dk_S2 a_Mo_goUntil_19 (dko_159 _) (by decide +kernel)
theorem d_Mo_goUntil_22 : decode b_Mo_goUntil 22 = .ok (.aload_n 0, 1) := dk_0 a_Mo_goUntil_22 (dko_42 _)
theorem d_Mo_goUntil_23 : decode b_Mo_goUntil 23 = .ok (.aload_n 0, 1) := dk_0 a_Mo_goUntil_23 (dko_42 _)
theorem d_Mo_goUntil_24 : decode b_Mo_goUntil 24 = .ok (.getfield 16, 3) := dk_U2 a_Mo_goUntil_24 (dko_180 _) rfl
theorem d_Mo_goUntil_27 : decode b_Mo_goUntil 27 = .ok (.aload_n 0, 1) := dk_0 a_Mo_goUntil_27 (dko_42 _)
theorem d_Mo_goUntil_28 : decode b_Mo_goUntil 28 = .ok (.getfield 166, 3) := dk_U2 a_Mo_goUntil_28 (dko_180 _) rfl
theorem d_Mo_goUntil_31 : decode b_Mo_goUntil 31 = .ok (.iload_n 1, 1) := dk_0 a_Mo_goUntil_31 (dko_27 _)
theorem d_Mo_goUntil_32 : decode b_Mo_goUntil 32 = .ok (.iaload, 1) := dk_0 a_Mo_goUntil_32 (dko_46 _)
theorem d_Mo_goUntil_33 : decode b_Mo_goUntil 33 = .ok (.iconst 0, 1) := dk_0 a_Mo_goUntil_33 (dko_3 _)
theorem d_Mo_goUntil_34 : decode b_Mo_goUntil 34 = .ok (.invokevirtual 502, 3) := dk_U2 a_Mo_goUntil_34 (dko_182 _) rfl
theorem d_Mo_goUntil_37 : decode b_Mo_goUntil 37 = .ok (.invokevirtual 523, 3) := dk_U2 a_Mo_goUntil_37 (dko_182 _) rfl
theorem d_Mo_goUntil_40 : decode b_Mo_goUntil 40 = .ok (.lstore_n 2, 1) := dk_0 a_Mo_goUntil_40 (dko_65 _)
theorem d_Mo_goUntil_41 : decode b_Mo_goUntil 41 = .ok (.aload_n 0, 1) := dk_0 a_Mo_goUntil_41 (dko_42 _)
theorem d_Mo_goUntil_42 : decode b_Mo_goUntil 42 = .ok (.invokevirtual 535, 3) := dk_U2 a_Mo_goUntil_42 (dko_182 _) rfl
theorem d_Mo_goUntil_45 : decode b_Mo_goUntil 45 = .ok (.ifCond .eq 5, 3) := dk_S2 a_Mo_goUntil_45 (dko_153 _) (by decide +kernel)
theorem d_Mo_goUntil_48 : decode b_Mo_goUntil 48 = .ok (.iconst 2, 1) := dk_0 a_Mo_goUntil_48 (dko_5 _)
theorem d_Mo_goUntil_49 : decode b_Mo_goUntil 49 = .ok (.ireturn, 1) := dk_0 a_Mo_goUntil_49 (dko_172 _)
theorem d_Mo_goUntil_50 : decode b_Mo_goUntil 50 = .ok (.aload_n 0, 1) := dk_0 a_Mo_goUntil_50 (dko_42 _)
theorem d_Mo_goUntil_51 : decode b_Mo_goUntil 51 = .ok (.getfield 178, 3) := dk_U2 a_Mo_goUntil_51 (dko_180 _) rfl
theorem d_Mo_goUntil_54 : decode b_Mo_goUntil 54 = .ok (.iload_n 1, 1) := dk_0 a_Mo_goUntil_54 (dko_27 _)
theorem d_Mo_goUntil_55 : decode b_Mo_goUntil 55 = .ok (.lload_n 2, 1) := dk_0 a_Mo_goUntil_55 (dko_32 _)
theorem d_Mo_goUntil_56 : decode b_Mo_goUntil 56 = .ok (.lconst 0, 1) := dk_0 a_Mo_goUntil_56 (dko_9 _)
theorem d_Mo_goUntil_57 : decode b_Mo_goUntil 57 = .ok (.lcmp, 1) := dk_0 a_Mo_goUntil_57 (dko_148 _)
theorem d_Mo_goUntil_58 : decode b_Mo_goUntil 58 = .ok (.ifCond .eq 7, 3) := dk_S2 a_Mo_goUntil_58 (dko_153 _) (by decide +kernel)
theorem d_Mo_goUntil_61 : decode b_Mo_goUntil 61 = .ok (.iconst 1, 1) := dk_0 a_Mo_goUntil_61 (dko_4 _)
theorem d_Mo_goUntil_62 : decode b_Mo_goUntil 62 = .ok (.goto 4, 3) := dk_S2 a_Mo_goUntil_62 (dko_167 _) (by decide +kernel)
theorem d_Mo_goUntil_65 : decode b_Mo_goUntil 65 = .ok (.iconst 0, 1) := dk_0 a_Mo_goUntil_65 (dko_3 _)
theorem d_Mo_goUntil_66 : decode b_Mo_goUntil 66 = .ok (.bastore, 1) := dk_0 a_Mo_goUntil_66 (dko_84 _)
theorem d_Mo_goUntil_67 : decode b_Mo_goUntil 67 = .ok (.aload_n 0, 1) := dk_0 a_Mo_goUntil_67 (dko_42 _)
theorem d_Mo_goUntil_68 : decode b_Mo_goUntil 68 = .ok (.getfield 178, 3) := dk_U2 a_Mo_goUntil_68 (dko_180 _) rfl
theorem d_Mo_goUntil_71 : decode b_Mo_goUntil 71 = .ok (.iload_n 1, 1) := dk_0 a_Mo_goUntil_71 (dko_27 _)
theorem d_Mo_goUntil_72 : decode b_Mo_goUntil 72 = .ok (.baload, 1) := dk_0 a_Mo_goUntil_72 (dko_51 _)
theorem d_Mo_goUntil_73 : decode b_Mo_goUntil 73 = .ok (.ifCond .eq 7, 3) := dk_S2 a_Mo_goUntil_73 (dko_153 _) (by decide +kernel)
theorem d_Mo_goUntil_76 : decode b_Mo_goUntil 76 = .ok (.iconst 1, 1) := dk_0 a_Mo_goUntil_76 (dko_4 _)
theorem d_Mo_goUntil_77 : decode b_Mo_goUntil 77 = .ok (.goto 4, 3) := dk_S2 a_Mo_goUntil_77 (dko_167 _) (by decide +kernel)
theorem d_Mo_goUntil_80 : decode b_Mo_goUntil 80 = .ok (.iconst 0, 1) := dk_0 a_Mo_goUntil_80 (dko_3 _)
theorem d_Mo_goUntil_81 : decode b_Mo_goUntil 81 = .ok (.ireturn, 1) := dk_0 a_Mo_goUntil_81 (dko_172 _)
set_option maxHeartbeats 4000000 in
set_option maxRecDepth 100000 in
theorem ok_Mo_goUntil (pc : Nat) : OpS mt mi_Mo_goUntil pc (cs_Mo_goUntil pc) := (os_n (os_n (os_n (os_n (os_n (os_l (so_aload_n d_Mo_goUntil_0 rfl)) (os_n (os_l (so_get (C := R_Mo) (T := F_Mo) (N := 87) (j := 65) in_Mo rfl (by decide) mw_1859 d_Mo_goUntil_1)) (os_l (so_iload_n d_Mo_goUntil_4 rfl)))) (os_n (os_l (so_baload d_Mo_goUntil_5)) (os_n (os_l (so_ifne d_Mo_goUntil_6 (by decide))) (os_l (so_aload_n d_Mo_goUntil_9 rfl))))) (os_n (os_n (os_l (so_get (C := R_Mo) (T := F_Mo) (N := 87) (j := 68) in_Mo rfl (by decide) mw_1862 d_Mo_goUntil_10)) (os_n (os_l (so_iload_n d_Mo_goUntil_13 rfl)) (os_l (so_iaload d_Mo_goUntil_14)))) (os_n (os_l (so_aload_n d_Mo_goUntil_15 rfl)) (os_n (os_l (so_get (C := R_Mo) (T := F_Mo) (N := 87) (j := 74) in_Mo rfl (by decide) mw_1868 d_Mo_goUntil_16)) (os_l (so_iceq d_Mo_goUntil_19 (by decide))))))) (os_n (os_n (os_n (os_l (so_aload_n d_Mo_goUntil_22 rfl)) (os_n (os_l (so_aload_n d_Mo_goUntil_23 rfl)) (os_l (so_get (C := R_Mo) (T := F_Mo) (N := 87) (j := 2) in_Mo rfl (by decide) mw_1796 d_Mo_goUntil_24)))) (os_n (os_l (so_aload_n d_Mo_goUntil_27 rfl)) (os_n (os_l (so_get (C := R_Mo) (T := F_Mo) (N := 87) (j := 61) in_Mo rfl (by decide) mw_1855 d_Mo_goUntil_28)) (os_l (so_iload_n d_Mo_goUntil_31 rfl))))) (os_n (os_n (os_l (so_iaload d_Mo_goUntil_32)) (os_n (os_l (so_iconst d_Mo_goUntil_33 (by decide))) (os_l (so_callVN (iv := mi_Tx_kid) rfl rfl rfl nw_2586 mw_2588 sl_177 mw_19 mw_2589 ⟨by decide +kernel, by decide +kernel, by decide +kernel⟩ (by decide) d_Mo_goUntil_34)))) (os_n (os_l (so_callV (iv := mi_Mo_reckon) rfl rfl rfl mw_2631 mw_2633 sl_185 mw_18 mw_2634 ⟨by decide +kernel, by decide +kernel, by decide +kernel⟩ (by decide) d_Mo_goUntil_37)) (os_n (os_l (so_lstore_n d_Mo_goUntil_40 rfl (by decide))) (os_l (so_aload_n d_Mo_goUntil_41 rfl))))))) (os_n (os_n (os_n (os_n (os_l (so_callV (iv := mi_Mo_isBad) rfl rfl rfl mw_2635 mw_2637 sl_186 mw_18 mw_2638 ⟨by decide +kernel, by decide +kernel, by decide +kernel⟩ (by decide) d_Mo_goUntil_42)) (os_n (os_l (so_ifeq d_Mo_goUntil_45 (by decide))) (os_l (so_iconst d_Mo_goUntil_48 (by decide))))) (os_n (os_l (so_ireturn rfl d_Mo_goUntil_49)) (os_n (os_l (so_aload_n d_Mo_goUntil_50 rfl)) (os_l (so_get (C := R_Mo) (T := F_Mo) (N := 87) (j := 65) in_Mo rfl (by decide) mw_1859 d_Mo_goUntil_51))))) (os_n (os_n (os_l (so_iload_n d_Mo_goUntil_54 rfl)) (os_n (os_l (so_lload_n d_Mo_goUntil_55 rfl)) (os_l (so_lconst d_Mo_goUntil_56 (by decide))))) (os_n (os_l (so_lcmp d_Mo_goUntil_57)) (os_n (os_l (so_ifeq d_Mo_goUntil_58 (by decide))) (os_l (so_iconst d_Mo_goUntil_61 (by decide))))))) (os_n (os_n (os_n (os_l (so_goto d_Mo_goUntil_62 (by decide))) (os_n (os_l (so_iconst d_Mo_goUntil_65 (by decide))) (os_l (so_bastore d_Mo_goUntil_66)))) (os_n (os_l (so_aload_n d_Mo_goUntil_67 rfl)) (os_n (os_l (so_get (C := R_Mo) (T := F_Mo) (N := 87) (j := 65) in_Mo rfl (by decide) mw_1859 d_Mo_goUntil_68)) (os_l (so_iload_n d_Mo_goUntil_71 rfl))))) (os_n (os_n (os_l (so_baload d_Mo_goUntil_72)) (os_n (os_l (so_ifeq d_Mo_goUntil_73 (by decide))) (os_l (so_iconst d_Mo_goUntil_76 (by decide))))) (os_n (os_l (so_goto d_Mo_goUntil_77 (by decide))) (os_n (os_l (so_iconst d_Mo_goUntil_80 (by decide))) (os_l (so_ireturn rfl d_Mo_goUntil_81))))))))
abbrev t_Mo_goPar_100 : List UInt8 := 172 :: []
abbrev t_Mo_goPar_99 : List UInt8 := 3 :: t_Mo_goPar_100
abbrev t_Mo_goPar_96 : List UInt8 := 167 :: 0 :: 4 :: t_Mo_goPar_99
abbrev t_Mo_goPar_95 : List UInt8 := 4 :: t_Mo_goPar_96
abbrev t_Mo_goPar_92 : List UInt8 := 153 :: 0 :: 7 :: t_Mo_goPar_95
abbrev t_Mo_goPar_91 : List UInt8 := 28 :: t_Mo_goPar_92
abbrev t_Mo_goPar_88 : List UInt8 := 167 :: 255 :: 177 :: t_Mo_goPar_91
abbrev t_Mo_goPar_87 : List UInt8 := 62 :: t_Mo_goPar_88
abbrev t_Mo_goPar_86 : List UInt8 := 46 :: t_Mo_goPar_87
abbrev t_Mo_goPar_85 : List UInt8 := 29 :: t_Mo_goPar_86
abbrev t_Mo_goPar_82 : List UInt8 := 180 :: 0 :: 172 :: t_Mo_goPar_85
abbrev t_Mo_goPar_81 : List UInt8 := 42 :: t_Mo_goPar_82
abbrev t_Mo_goPar_80 : List UInt8 := 61 :: t_Mo_goPar_81
abbrev t_Mo_goPar_79 : List UInt8 := 3 :: t_Mo_goPar_80
abbrev t_Mo_goPar_76 : List UInt8 := 167 :: 0 :: 4 :: t_Mo_goPar_79
abbrev t_Mo_goPar_75 : List UInt8 := 4 :: t_Mo_goPar_76
abbrev t_Mo_goPar_72 : List UInt8 := 153 :: 0 :: 7 :: t_Mo_goPar_75
abbrev t_Mo_goPar_71 : List UInt8 := 51 :: t_Mo_goPar_72
abbrev t_Mo_goPar_70 : List UInt8 := 29 :: t_Mo_goPar_71
abbrev t_Mo_goPar_67 : List UInt8 := 180 :: 0 :: 181 :: t_Mo_goPar_70
abbrev t_Mo_goPar_66 : List UInt8 := 42 :: t_Mo_goPar_67
abbrev t_Mo_goPar_63 : List UInt8 := 153 :: 0 :: 16 :: t_Mo_goPar_66
abbrev t_Mo_goPar_62 : List UInt8 := 28 :: t_Mo_goPar_63
abbrev t_Mo_goPar_61 : List UInt8 := 84 :: t_Mo_goPar_62
abbrev t_Mo_goPar_60 : List UInt8 := 3 :: t_Mo_goPar_61
abbrev t_Mo_goPar_57 : List UInt8 := 167 :: 0 :: 4 :: t_Mo_goPar_60
abbrev t_Mo_goPar_56 : List UInt8 := 4 :: t_Mo_goPar_57
abbrev t_Mo_goPar_53 : List UInt8 := 160 :: 0 :: 7 :: t_Mo_goPar_56
abbrev t_Mo_goPar_52 : List UInt8 := 4 :: t_Mo_goPar_53
abbrev t_Mo_goPar_50 : List UInt8 := 21 :: 4 :: t_Mo_goPar_52
abbrev t_Mo_goPar_49 : List UInt8 := 29 :: t_Mo_goPar_50
abbrev t_Mo_goPar_46 : List UInt8 := 180 :: 0 :: 181 :: t_Mo_goPar_49
abbrev t_Mo_goPar_45 : List UInt8 := 42 :: t_Mo_goPar_46
abbrev t_Mo_goPar_44 : List UInt8 := 172 :: t_Mo_goPar_45
abbrev t_Mo_goPar_42 : List UInt8 := 21 :: 4 :: t_Mo_goPar_44
abbrev t_Mo_goPar_39 : List UInt8 := 160 :: 0 :: 6 :: t_Mo_goPar_42
abbrev t_Mo_goPar_38 : List UInt8 := 6 :: t_Mo_goPar_39
abbrev t_Mo_goPar_36 : List UInt8 := 21 :: 4 :: t_Mo_goPar_38
abbrev t_Mo_goPar_33 : List UInt8 := 159 :: 0 :: 9 :: t_Mo_goPar_36
abbrev t_Mo_goPar_32 : List UInt8 := 5 :: t_Mo_goPar_33
abbrev t_Mo_goPar_30 : List UInt8 := 21 :: 4 :: t_Mo_goPar_32
abbrev t_Mo_goPar_28 : List UInt8 := 54 :: 4 :: t_Mo_goPar_30
abbrev t_Mo_goPar_25 : List UInt8 := 182 :: 2 :: 33 :: t_Mo_goPar_28
abbrev t_Mo_goPar_24 : List UInt8 := 29 :: t_Mo_goPar_25
abbrev t_Mo_goPar_23 : List UInt8 := 42 :: t_Mo_goPar_24
abbrev t_Mo_goPar_20 : List UInt8 := 154 :: 0 :: 42 :: t_Mo_goPar_23
abbrev t_Mo_goPar_19 : List UInt8 := 51 :: t_Mo_goPar_20
abbrev t_Mo_goPar_18 : List UInt8 := 29 :: t_Mo_goPar_19
abbrev t_Mo_goPar_15 : List UInt8 := 180 :: 0 :: 181 :: t_Mo_goPar_18
abbrev t_Mo_goPar_14 : List UInt8 := 42 :: t_Mo_goPar_15
abbrev t_Mo_goPar_11 : List UInt8 := 159 :: 0 :: 80 :: t_Mo_goPar_14
abbrev t_Mo_goPar_10 : List UInt8 := 2 :: t_Mo_goPar_11
abbrev t_Mo_goPar_9 : List UInt8 := 29 :: t_Mo_goPar_10
abbrev t_Mo_goPar_8 : List UInt8 := 62 :: t_Mo_goPar_9
abbrev t_Mo_goPar_7 : List UInt8 := 46 :: t_Mo_goPar_8
abbrev t_Mo_goPar_6 : List UInt8 := 27 :: t_Mo_goPar_7
abbrev t_Mo_goPar_3 : List UInt8 := 180 :: 0 :: 169 :: t_Mo_goPar_6
abbrev t_Mo_goPar_2 : List UInt8 := 42 :: t_Mo_goPar_3
abbrev t_Mo_goPar_1 : List UInt8 := 61 :: t_Mo_goPar_2
abbrev t_Mo_goPar_0 : List UInt8 := 4 :: t_Mo_goPar_1
theorem a_Mo_goPar_0 : dk_at b_Mo_goPar 0 t_Mo_goPar_0 := dk_start (by decide +kernel)
theorem a_Mo_goPar_1 : dk_at b_Mo_goPar 1 t_Mo_goPar_1 := dk_go 1 a_Mo_goPar_0 rfl
theorem a_Mo_goPar_2 : dk_at b_Mo_goPar 2 t_Mo_goPar_2 := dk_go 1 a_Mo_goPar_1 rfl
theorem a_Mo_goPar_3 : dk_at b_Mo_goPar 3 t_Mo_goPar_3 := dk_go 1 a_Mo_goPar_2 rfl
theorem a_Mo_goPar_6 : dk_at b_Mo_goPar 6 t_Mo_goPar_6 := dk_go 3 a_Mo_goPar_3 rfl
theorem a_Mo_goPar_7 : dk_at b_Mo_goPar 7 t_Mo_goPar_7 := dk_go 1 a_Mo_goPar_6 rfl
theorem a_Mo_goPar_8 : dk_at b_Mo_goPar 8 t_Mo_goPar_8 := dk_go 1 a_Mo_goPar_7 rfl
theorem a_Mo_goPar_9 : dk_at b_Mo_goPar 9 t_Mo_goPar_9 := dk_go 1 a_Mo_goPar_8 rfl
theorem a_Mo_goPar_10 : dk_at b_Mo_goPar 10 t_Mo_goPar_10 := dk_go 1 a_Mo_goPar_9 rfl
theorem a_Mo_goPar_11 : dk_at b_Mo_goPar 11 t_Mo_goPar_11 := dk_go 1 a_Mo_goPar_10 rfl
theorem a_Mo_goPar_14 : dk_at b_Mo_goPar 14 t_Mo_goPar_14 := dk_go 3 a_Mo_goPar_11 rfl
theorem a_Mo_goPar_15 : dk_at b_Mo_goPar 15 t_Mo_goPar_15 := dk_go 1 a_Mo_goPar_14 rfl
theorem a_Mo_goPar_18 : dk_at b_Mo_goPar 18 t_Mo_goPar_18 := dk_go 3 a_Mo_goPar_15 rfl
theorem a_Mo_goPar_19 : dk_at b_Mo_goPar 19 t_Mo_goPar_19 := dk_go 1 a_Mo_goPar_18 rfl
theorem a_Mo_goPar_20 : dk_at b_Mo_goPar 20 t_Mo_goPar_20 := dk_go 1 a_Mo_goPar_19 rfl
theorem a_Mo_goPar_23 : dk_at b_Mo_goPar 23 t_Mo_goPar_23 := dk_go 3 a_Mo_goPar_20 rfl
theorem a_Mo_goPar_24 : dk_at b_Mo_goPar 24 t_Mo_goPar_24 := dk_go 1 a_Mo_goPar_23 rfl
theorem a_Mo_goPar_25 : dk_at b_Mo_goPar 25 t_Mo_goPar_25 := dk_go 1 a_Mo_goPar_24 rfl
theorem a_Mo_goPar_28 : dk_at b_Mo_goPar 28 t_Mo_goPar_28 := dk_go 3 a_Mo_goPar_25 rfl
theorem a_Mo_goPar_30 : dk_at b_Mo_goPar 30 t_Mo_goPar_30 := dk_go 2 a_Mo_goPar_28 rfl
theorem a_Mo_goPar_32 : dk_at b_Mo_goPar 32 t_Mo_goPar_32 := dk_go 2 a_Mo_goPar_30 rfl
theorem a_Mo_goPar_33 : dk_at b_Mo_goPar 33 t_Mo_goPar_33 := dk_go 1 a_Mo_goPar_32 rfl
theorem a_Mo_goPar_36 : dk_at b_Mo_goPar 36 t_Mo_goPar_36 := dk_go 3 a_Mo_goPar_33 rfl
theorem a_Mo_goPar_38 : dk_at b_Mo_goPar 38 t_Mo_goPar_38 := dk_go 2 a_Mo_goPar_36 rfl
theorem a_Mo_goPar_39 : dk_at b_Mo_goPar 39 t_Mo_goPar_39 := dk_go 1 a_Mo_goPar_38 rfl
theorem a_Mo_goPar_42 : dk_at b_Mo_goPar 42 t_Mo_goPar_42 := dk_go 3 a_Mo_goPar_39 rfl
theorem a_Mo_goPar_44 : dk_at b_Mo_goPar 44 t_Mo_goPar_44 := dk_go 2 a_Mo_goPar_42 rfl
theorem a_Mo_goPar_45 : dk_at b_Mo_goPar 45 t_Mo_goPar_45 := dk_go 1 a_Mo_goPar_44 rfl
theorem a_Mo_goPar_46 : dk_at b_Mo_goPar 46 t_Mo_goPar_46 := dk_go 1 a_Mo_goPar_45 rfl
theorem a_Mo_goPar_49 : dk_at b_Mo_goPar 49 t_Mo_goPar_49 := dk_go 3 a_Mo_goPar_46 rfl
theorem a_Mo_goPar_50 : dk_at b_Mo_goPar 50 t_Mo_goPar_50 := dk_go 1 a_Mo_goPar_49 rfl
theorem a_Mo_goPar_52 : dk_at b_Mo_goPar 52 t_Mo_goPar_52 := dk_go 2 a_Mo_goPar_50 rfl
theorem a_Mo_goPar_53 : dk_at b_Mo_goPar 53 t_Mo_goPar_53 := dk_go 1 a_Mo_goPar_52 rfl
theorem a_Mo_goPar_56 : dk_at b_Mo_goPar 56 t_Mo_goPar_56 := dk_go 3 a_Mo_goPar_53 rfl
theorem a_Mo_goPar_57 : dk_at b_Mo_goPar 57 t_Mo_goPar_57 := dk_go 1 a_Mo_goPar_56 rfl
theorem a_Mo_goPar_60 : dk_at b_Mo_goPar 60 t_Mo_goPar_60 := dk_go 3 a_Mo_goPar_57 rfl
theorem a_Mo_goPar_61 : dk_at b_Mo_goPar 61 t_Mo_goPar_61 := dk_go 1 a_Mo_goPar_60 rfl
theorem a_Mo_goPar_62 : dk_at b_Mo_goPar 62 t_Mo_goPar_62 := dk_go 1 a_Mo_goPar_61 rfl
theorem a_Mo_goPar_63 : dk_at b_Mo_goPar 63 t_Mo_goPar_63 := dk_go 1 a_Mo_goPar_62 rfl
theorem a_Mo_goPar_66 : dk_at b_Mo_goPar 66 t_Mo_goPar_66 := dk_go 3 a_Mo_goPar_63 rfl
theorem a_Mo_goPar_67 : dk_at b_Mo_goPar 67 t_Mo_goPar_67 := dk_go 1 a_Mo_goPar_66 rfl
theorem a_Mo_goPar_70 : dk_at b_Mo_goPar 70 t_Mo_goPar_70 := dk_go 3 a_Mo_goPar_67 rfl
theorem a_Mo_goPar_71 : dk_at b_Mo_goPar 71 t_Mo_goPar_71 := dk_go 1 a_Mo_goPar_70 rfl
theorem a_Mo_goPar_72 : dk_at b_Mo_goPar 72 t_Mo_goPar_72 := dk_go 1 a_Mo_goPar_71 rfl
theorem a_Mo_goPar_75 : dk_at b_Mo_goPar 75 t_Mo_goPar_75 := dk_go 3 a_Mo_goPar_72 rfl
theorem a_Mo_goPar_76 : dk_at b_Mo_goPar 76 t_Mo_goPar_76 := dk_go 1 a_Mo_goPar_75 rfl
theorem a_Mo_goPar_79 : dk_at b_Mo_goPar 79 t_Mo_goPar_79 := dk_go 3 a_Mo_goPar_76 rfl
theorem a_Mo_goPar_80 : dk_at b_Mo_goPar 80 t_Mo_goPar_80 := dk_go 1 a_Mo_goPar_79 rfl
theorem a_Mo_goPar_81 : dk_at b_Mo_goPar 81 t_Mo_goPar_81 := dk_go 1 a_Mo_goPar_80 rfl
theorem a_Mo_goPar_82 : dk_at b_Mo_goPar 82 t_Mo_goPar_82 := dk_go 1 a_Mo_goPar_81 rfl
theorem a_Mo_goPar_85 : dk_at b_Mo_goPar 85 t_Mo_goPar_85 := dk_go 3 a_Mo_goPar_82 rfl
theorem a_Mo_goPar_86 : dk_at b_Mo_goPar 86 t_Mo_goPar_86 := dk_go 1 a_Mo_goPar_85 rfl
theorem a_Mo_goPar_87 : dk_at b_Mo_goPar 87 t_Mo_goPar_87 := dk_go 1 a_Mo_goPar_86 rfl
theorem a_Mo_goPar_88 : dk_at b_Mo_goPar 88 t_Mo_goPar_88 := dk_go 1 a_Mo_goPar_87 rfl
theorem a_Mo_goPar_91 : dk_at b_Mo_goPar 91 t_Mo_goPar_91 := dk_go 3 a_Mo_goPar_88 rfl
theorem a_Mo_goPar_92 : dk_at b_Mo_goPar 92 t_Mo_goPar_92 := dk_go 1 a_Mo_goPar_91 rfl
theorem a_Mo_goPar_95 : dk_at b_Mo_goPar 95 t_Mo_goPar_95 := dk_go 3 a_Mo_goPar_92 rfl
theorem a_Mo_goPar_96 : dk_at b_Mo_goPar 96 t_Mo_goPar_96 := dk_go 1 a_Mo_goPar_95 rfl
theorem a_Mo_goPar_99 : dk_at b_Mo_goPar 99 t_Mo_goPar_99 := dk_go 3 a_Mo_goPar_96 rfl
theorem a_Mo_goPar_100 : dk_at b_Mo_goPar 100 t_Mo_goPar_100 := dk_go 1 a_Mo_goPar_99 rfl
theorem d_Mo_goPar_0 : decode b_Mo_goPar 0 = .ok (.iconst 1, 1) := dk_0 a_Mo_goPar_0 (dko_4 _)
theorem d_Mo_goPar_1 : decode b_Mo_goPar 1 = .ok (.istore_n 2, 1) := dk_0 a_Mo_goPar_1 (dko_61 _)
theorem d_Mo_goPar_2 : decode b_Mo_goPar 2 = .ok (.aload_n 0, 1) := dk_0 a_Mo_goPar_2 (dko_42 _)
theorem d_Mo_goPar_3 : decode b_Mo_goPar 3 = .ok (.getfield 169, 3) := dk_U2 a_Mo_goPar_3 (dko_180 _) rfl
theorem d_Mo_goPar_6 : decode b_Mo_goPar 6 = .ok (.iload_n 1, 1) := dk_0 a_Mo_goPar_6 (dko_27 _)
theorem d_Mo_goPar_7 : decode b_Mo_goPar 7 = .ok (.iaload, 1) := dk_0 a_Mo_goPar_7 (dko_46 _)
theorem d_Mo_goPar_8 : decode b_Mo_goPar 8 = .ok (.istore_n 3, 1) := dk_0 a_Mo_goPar_8 (dko_62 _)
theorem d_Mo_goPar_9 : decode b_Mo_goPar 9 = .ok (.iload_n 3, 1) := dk_0 a_Mo_goPar_9 (dko_29 _)
theorem d_Mo_goPar_10 : decode b_Mo_goPar 10 = .ok (.iconst (-1), 1) := dk_0 a_Mo_goPar_10 (dko_2 _)
theorem d_Mo_goPar_11 : decode b_Mo_goPar 11 = .ok (.if_icmp .eq 80, 3) := dk_S2 a_Mo_goPar_11 (dko_159 _) (by decide +kernel)
theorem d_Mo_goPar_14 : decode b_Mo_goPar 14 = .ok (.aload_n 0, 1) := dk_0 a_Mo_goPar_14 (dko_42 _)
theorem d_Mo_goPar_15 : decode b_Mo_goPar 15 = .ok (.getfield 181, 3) := dk_U2 a_Mo_goPar_15 (dko_180 _) rfl
theorem d_Mo_goPar_18 : decode b_Mo_goPar 18 = .ok (.iload_n 3, 1) := dk_0 a_Mo_goPar_18 (dko_29 _)
theorem d_Mo_goPar_19 : decode b_Mo_goPar 19 = .ok (.baload, 1) := dk_0 a_Mo_goPar_19 (dko_51 _)
theorem d_Mo_goPar_20 : decode b_Mo_goPar 20 = .ok (.ifCond .ne 42, 3) := dk_S2 a_Mo_goPar_20 (dko_154 _) (by decide +kernel)
theorem d_Mo_goPar_23 : decode b_Mo_goPar 23 = .ok (.aload_n 0, 1) := dk_0 a_Mo_goPar_23 (dko_42 _)
theorem d_Mo_goPar_24 : decode b_Mo_goPar 24 = .ok (.iload_n 3, 1) := dk_0 a_Mo_goPar_24 (dko_29 _)
theorem d_Mo_goPar_25 : decode b_Mo_goPar 25 = .ok (.invokevirtual 545, 3) := dk_U2 a_Mo_goPar_25 (dko_182 _) rfl
theorem d_Mo_goPar_28 : decode b_Mo_goPar 28 = .ok (.istore 4, 2) := dk_U1 a_Mo_goPar_28 (dko_54 _) rfl
theorem d_Mo_goPar_30 : decode b_Mo_goPar 30 = .ok (.iload 4, 2) := dk_U1 a_Mo_goPar_30 (dko_21 _) rfl
theorem d_Mo_goPar_32 : decode b_Mo_goPar 32 = .ok (.iconst 2, 1) := dk_0 a_Mo_goPar_32 (dko_5 _)
theorem d_Mo_goPar_33 : decode b_Mo_goPar 33 = .ok (.if_icmp .eq 9, 3) := dk_S2 a_Mo_goPar_33 (dko_159 _) (by decide +kernel)
theorem d_Mo_goPar_36 : decode b_Mo_goPar 36 = .ok (.iload 4, 2) := dk_U1 a_Mo_goPar_36 (dko_21 _) rfl
theorem d_Mo_goPar_38 : decode b_Mo_goPar 38 = .ok (.iconst 3, 1) := dk_0 a_Mo_goPar_38 (dko_6 _)
theorem d_Mo_goPar_39 : decode b_Mo_goPar 39 = .ok (.if_icmp .ne 6, 3) := dk_S2 a_Mo_goPar_39 (dko_160 _) (by decide +kernel)
theorem d_Mo_goPar_42 : decode b_Mo_goPar 42 = .ok (.iload 4, 2) := dk_U1 a_Mo_goPar_42 (dko_21 _) rfl
theorem d_Mo_goPar_44 : decode b_Mo_goPar 44 = .ok (.ireturn, 1) := dk_0 a_Mo_goPar_44 (dko_172 _)
theorem d_Mo_goPar_45 : decode b_Mo_goPar 45 = .ok (.aload_n 0, 1) := dk_0 a_Mo_goPar_45 (dko_42 _)
theorem d_Mo_goPar_46 : decode b_Mo_goPar 46 = .ok (.getfield 181, 3) := dk_U2 a_Mo_goPar_46 (dko_180 _) rfl
theorem d_Mo_goPar_49 : decode b_Mo_goPar 49 = .ok (.iload_n 3, 1) := dk_0 a_Mo_goPar_49 (dko_29 _)
theorem d_Mo_goPar_50 : decode b_Mo_goPar 50 = .ok (.iload 4, 2) := dk_U1 a_Mo_goPar_50 (dko_21 _) rfl
theorem d_Mo_goPar_52 : decode b_Mo_goPar 52 = .ok (.iconst 1, 1) := dk_0 a_Mo_goPar_52 (dko_4 _)
theorem d_Mo_goPar_53 : decode b_Mo_goPar 53 = .ok (.if_icmp .ne 7, 3) := dk_S2 a_Mo_goPar_53 (dko_160 _) (by decide +kernel)
theorem d_Mo_goPar_56 : decode b_Mo_goPar 56 = .ok (.iconst 1, 1) := dk_0 a_Mo_goPar_56 (dko_4 _)
theorem d_Mo_goPar_57 : decode b_Mo_goPar 57 = .ok (.goto 4, 3) := dk_S2 a_Mo_goPar_57 (dko_167 _) (by decide +kernel)
theorem d_Mo_goPar_60 : decode b_Mo_goPar 60 = .ok (.iconst 0, 1) := dk_0 a_Mo_goPar_60 (dko_3 _)
theorem d_Mo_goPar_61 : decode b_Mo_goPar 61 = .ok (.bastore, 1) := dk_0 a_Mo_goPar_61 (dko_84 _)
theorem d_Mo_goPar_62 : decode b_Mo_goPar 62 = .ok (.iload_n 2, 1) := dk_0 a_Mo_goPar_62 (dko_28 _)
theorem d_Mo_goPar_63 : decode b_Mo_goPar 63 = .ok (.ifCond .eq 16, 3) := dk_S2 a_Mo_goPar_63 (dko_153 _) (by decide +kernel)
theorem d_Mo_goPar_66 : decode b_Mo_goPar 66 = .ok (.aload_n 0, 1) := dk_0 a_Mo_goPar_66 (dko_42 _)
theorem d_Mo_goPar_67 : decode b_Mo_goPar 67 = .ok (.getfield 181, 3) := dk_U2 a_Mo_goPar_67 (dko_180 _) rfl
theorem d_Mo_goPar_70 : decode b_Mo_goPar 70 = .ok (.iload_n 3, 1) := dk_0 a_Mo_goPar_70 (dko_29 _)
theorem d_Mo_goPar_71 : decode b_Mo_goPar 71 = .ok (.baload, 1) := dk_0 a_Mo_goPar_71 (dko_51 _)
theorem d_Mo_goPar_72 : decode b_Mo_goPar 72 = .ok (.ifCond .eq 7, 3) := dk_S2 a_Mo_goPar_72 (dko_153 _) (by decide +kernel)
theorem d_Mo_goPar_75 : decode b_Mo_goPar 75 = .ok (.iconst 1, 1) := dk_0 a_Mo_goPar_75 (dko_4 _)
theorem d_Mo_goPar_76 : decode b_Mo_goPar 76 = .ok (.goto 4, 3) := dk_S2 a_Mo_goPar_76 (dko_167 _) (by decide +kernel)
theorem d_Mo_goPar_79 : decode b_Mo_goPar 79 = .ok (.iconst 0, 1) := dk_0 a_Mo_goPar_79 (dko_3 _)
theorem d_Mo_goPar_80 : decode b_Mo_goPar 80 = .ok (.istore_n 2, 1) := dk_0 a_Mo_goPar_80 (dko_61 _)
theorem d_Mo_goPar_81 : decode b_Mo_goPar 81 = .ok (.aload_n 0, 1) := dk_0 a_Mo_goPar_81 (dko_42 _)
theorem d_Mo_goPar_82 : decode b_Mo_goPar 82 = .ok (.getfield 172, 3) := dk_U2 a_Mo_goPar_82 (dko_180 _) rfl
theorem d_Mo_goPar_85 : decode b_Mo_goPar 85 = .ok (.iload_n 3, 1) := dk_0 a_Mo_goPar_85 (dko_29 _)
theorem d_Mo_goPar_86 : decode b_Mo_goPar 86 = .ok (.iaload, 1) := dk_0 a_Mo_goPar_86 (dko_46 _)
theorem d_Mo_goPar_87 : decode b_Mo_goPar 87 = .ok (.istore_n 3, 1) := dk_0 a_Mo_goPar_87 (dko_62 _)
theorem d_Mo_goPar_88 : decode b_Mo_goPar 88 = .ok (.goto (-79), 3) := dk_S2 a_Mo_goPar_88 (dko_167 _) (by decide +kernel)
theorem d_Mo_goPar_91 : decode b_Mo_goPar 91 = .ok (.iload_n 2, 1) := dk_0 a_Mo_goPar_91 (dko_28 _)
theorem d_Mo_goPar_92 : decode b_Mo_goPar 92 = .ok (.ifCond .eq 7, 3) := dk_S2 a_Mo_goPar_92 (dko_153 _) (by decide +kernel)
theorem d_Mo_goPar_95 : decode b_Mo_goPar 95 = .ok (.iconst 1, 1) := dk_0 a_Mo_goPar_95 (dko_4 _)
theorem d_Mo_goPar_96 : decode b_Mo_goPar 96 = .ok (.goto 4, 3) := dk_S2 a_Mo_goPar_96 (dko_167 _) (by decide +kernel)
theorem d_Mo_goPar_99 : decode b_Mo_goPar 99 = .ok (.iconst 0, 1) := dk_0 a_Mo_goPar_99 (dko_3 _)
theorem d_Mo_goPar_100 : decode b_Mo_goPar 100 = .ok (.ireturn, 1) := dk_0 a_Mo_goPar_100 (dko_172 _)
set_option maxHeartbeats 4000000 in
set_option maxRecDepth 100000 in
theorem ok_Mo_goPar (pc : Nat) : OpS mt mi_Mo_goPar pc (cs_Mo_goPar pc) := (os_n (os_n (os_n (os_n (os_n (os_l (so_iconst d_Mo_goPar_0 (by decide))) (os_n (os_l (so_istore_n d_Mo_goPar_1 rfl (by decide))) (os_l (so_aload_n d_Mo_goPar_2 rfl)))) (os_n (os_n (os_l (so_get (C := R_Mo) (T := F_Mo) (N := 87) (j := 62) in_Mo rfl (by decide) mw_1856 d_Mo_goPar_3)) (os_l (so_iload_n d_Mo_goPar_6 rfl))) (os_n (os_l (so_iaload d_Mo_goPar_7)) (os_l (so_istore_n d_Mo_goPar_8 rfl (by decide)))))) (os_n (os_n (os_n (os_l (so_iload_n d_Mo_goPar_9 rfl)) (os_l (so_iconst d_Mo_goPar_10 (by decide)))) (os_n (os_l (so_iceq d_Mo_goPar_11 (by decide))) (os_l (so_aload_n d_Mo_goPar_14 rfl)))) (os_n (os_n (os_l (so_get (C := R_Mo) (T := F_Mo) (N := 87) (j := 66) in_Mo rfl (by decide) mw_1860 d_Mo_goPar_15)) (os_l (so_iload_n d_Mo_goPar_18 rfl))) (os_n (os_l (so_baload d_Mo_goPar_19)) (os_l (so_ifne d_Mo_goPar_20 (by decide))))))) (os_n (os_n (os_n (os_l (so_aload_n d_Mo_goPar_23 rfl)) (os_n (os_l (so_iload_n d_Mo_goPar_24 rfl)) (os_l (so_callV (iv := mi_Mo_go) rfl rfl rfl mw_2639 mw_2641 sl_187 mw_18 mw_2642 ⟨by decide +kernel, by decide +kernel, by decide +kernel⟩ (by decide) d_Mo_goPar_25)))) (os_n (os_n (os_l (so_istore d_Mo_goPar_28 (by decide))) (os_l (so_iload d_Mo_goPar_30))) (os_n (os_l (so_iconst d_Mo_goPar_32 (by decide))) (os_l (so_iceq d_Mo_goPar_33 (by decide)))))) (os_n (os_n (os_n (os_l (so_iload d_Mo_goPar_36)) (os_l (so_iconst d_Mo_goPar_38 (by decide)))) (os_n (os_l (so_icne d_Mo_goPar_39 (by decide))) (os_l (so_iload d_Mo_goPar_42)))) (os_n (os_n (os_l (so_ireturn rfl d_Mo_goPar_44)) (os_l (so_aload_n d_Mo_goPar_45 rfl))) (os_n (os_l (so_get (C := R_Mo) (T := F_Mo) (N := 87) (j := 66) in_Mo rfl (by decide) mw_1860 d_Mo_goPar_46)) (os_l (so_iload_n d_Mo_goPar_49 rfl))))))) (os_n (os_n (os_n (os_n (os_l (so_iload d_Mo_goPar_50)) (os_n (os_l (so_iconst d_Mo_goPar_52 (by decide))) (os_l (so_icne d_Mo_goPar_53 (by decide))))) (os_n (os_n (os_l (so_iconst d_Mo_goPar_56 (by decide))) (os_l (so_goto d_Mo_goPar_57 (by decide)))) (os_n (os_l (so_iconst d_Mo_goPar_60 (by decide))) (os_l (so_bastore d_Mo_goPar_61))))) (os_n (os_n (os_n (os_l (so_iload_n d_Mo_goPar_62 rfl)) (os_l (so_ifeq d_Mo_goPar_63 (by decide)))) (os_n (os_l (so_aload_n d_Mo_goPar_66 rfl)) (os_l (so_get (C := R_Mo) (T := F_Mo) (N := 87) (j := 66) in_Mo rfl (by decide) mw_1860 d_Mo_goPar_67)))) (os_n (os_n (os_l (so_iload_n d_Mo_goPar_70 rfl)) (os_l (so_baload d_Mo_goPar_71))) (os_n (os_l (so_ifeq d_Mo_goPar_72 (by decide))) (os_l (so_iconst d_Mo_goPar_75 (by decide))))))) (os_n (os_n (os_n (os_l (so_goto d_Mo_goPar_76 (by decide))) (os_n (os_l (so_iconst d_Mo_goPar_79 (by decide))) (os_l (so_istore_n d_Mo_goPar_80 rfl (by decide))))) (os_n (os_n (os_l (so_aload_n d_Mo_goPar_81 rfl)) (os_l (so_get (C := R_Mo) (T := F_Mo) (N := 87) (j := 63) in_Mo rfl (by decide) mw_1857 d_Mo_goPar_82))) (os_n (os_l (so_iload_n d_Mo_goPar_85 rfl)) (os_l (so_iaload d_Mo_goPar_86))))) (os_n (os_n (os_n (os_l (so_istore_n d_Mo_goPar_87 rfl (by decide))) (os_l (so_goto d_Mo_goPar_88 (by decide)))) (os_n (os_l (so_iload_n d_Mo_goPar_91 rfl)) (os_l (so_ifeq d_Mo_goPar_92 (by decide))))) (os_n (os_n (os_l (so_iconst d_Mo_goPar_95 (by decide))) (os_l (so_goto d_Mo_goPar_96 (by decide)))) (os_n (os_l (so_iconst d_Mo_goPar_99 (by decide))) (os_l (so_ireturn rfl d_Mo_goPar_100))))))))
abbrev t_Mo_goRamp_147 : List UInt8 := 172 :: []
abbrev t_Mo_goRamp_146 : List UInt8 := 3 :: t_Mo_goRamp_147
abbrev t_Mo_goRamp_145 : List UInt8 := 80 :: t_Mo_goRamp_146
abbrev t_Mo_goRamp_144 : List UInt8 := 97 :: t_Mo_goRamp_145
abbrev t_Mo_goRamp_142 : List UInt8 := 22 :: 7 :: t_Mo_goRamp_144
abbrev t_Mo_goRamp_141 : List UInt8 := 47 :: t_Mo_goRamp_142
abbrev t_Mo_goRamp_140 : List UInt8 := 27 :: t_Mo_goRamp_141
abbrev t_Mo_goRamp_137 : List UInt8 := 180 :: 0 :: 196 :: t_Mo_goRamp_140
abbrev t_Mo_goRamp_136 : List UInt8 := 42 :: t_Mo_goRamp_137
abbrev t_Mo_goRamp_134 : List UInt8 := 21 :: 4 :: t_Mo_goRamp_136
abbrev t_Mo_goRamp_131 : List UInt8 := 180 :: 0 :: 159 :: t_Mo_goRamp_134
abbrev t_Mo_goRamp_130 : List UInt8 := 42 :: t_Mo_goRamp_131
abbrev t_Mo_goRamp_128 : List UInt8 := 55 :: 7 :: t_Mo_goRamp_130
abbrev t_Mo_goRamp_127 : List UInt8 := 101 :: t_Mo_goRamp_128
abbrev t_Mo_goRamp_126 : List UInt8 := 9 :: t_Mo_goRamp_127
abbrev t_Mo_goRamp_123 : List UInt8 := 167 :: 0 :: 4 :: t_Mo_goRamp_126
abbrev t_Mo_goRamp_122 : List UInt8 := 10 :: t_Mo_goRamp_123
abbrev t_Mo_goRamp_119 : List UInt8 := 156 :: 0 :: 7 :: t_Mo_goRamp_122
abbrev t_Mo_goRamp_118 : List UInt8 := 148 :: t_Mo_goRamp_119
abbrev t_Mo_goRamp_117 : List UInt8 := 9 :: t_Mo_goRamp_118
abbrev t_Mo_goRamp_116 : List UInt8 := 113 :: t_Mo_goRamp_117
abbrev t_Mo_goRamp_115 : List UInt8 := 47 :: t_Mo_goRamp_116
abbrev t_Mo_goRamp_114 : List UInt8 := 27 :: t_Mo_goRamp_115
abbrev t_Mo_goRamp_111 : List UInt8 := 180 :: 0 :: 190 :: t_Mo_goRamp_114
abbrev t_Mo_goRamp_110 : List UInt8 := 42 :: t_Mo_goRamp_111
abbrev t_Mo_goRamp_108 : List UInt8 := 22 :: 5 :: t_Mo_goRamp_110
abbrev t_Mo_goRamp_106 : List UInt8 := 22 :: 7 :: t_Mo_goRamp_108
abbrev t_Mo_goRamp_104 : List UInt8 := 55 :: 7 :: t_Mo_goRamp_106
abbrev t_Mo_goRamp_103 : List UInt8 := 109 :: t_Mo_goRamp_104
abbrev t_Mo_goRamp_102 : List UInt8 := 47 :: t_Mo_goRamp_103
abbrev t_Mo_goRamp_101 : List UInt8 := 27 :: t_Mo_goRamp_102
abbrev t_Mo_goRamp_98 : List UInt8 := 180 :: 0 :: 190 :: t_Mo_goRamp_101
abbrev t_Mo_goRamp_97 : List UInt8 := 42 :: t_Mo_goRamp_98
abbrev t_Mo_goRamp_95 : List UInt8 := 22 :: 5 :: t_Mo_goRamp_97
abbrev t_Mo_goRamp_93 : List UInt8 := 55 :: 5 :: t_Mo_goRamp_95
abbrev t_Mo_goRamp_92 : List UInt8 := 105 :: t_Mo_goRamp_93
abbrev t_Mo_goRamp_91 : List UInt8 := 32 :: t_Mo_goRamp_92
abbrev t_Mo_goRamp_90 : List UInt8 := 101 :: t_Mo_goRamp_91
abbrev t_Mo_goRamp_89 : List UInt8 := 47 :: t_Mo_goRamp_90
abbrev t_Mo_goRamp_88 : List UInt8 := 27 :: t_Mo_goRamp_89
abbrev t_Mo_goRamp_85 : List UInt8 := 180 :: 0 :: 196 :: t_Mo_goRamp_88
abbrev t_Mo_goRamp_84 : List UInt8 := 42 :: t_Mo_goRamp_85
abbrev t_Mo_goRamp_83 : List UInt8 := 47 :: t_Mo_goRamp_84
abbrev t_Mo_goRamp_82 : List UInt8 := 27 :: t_Mo_goRamp_83
abbrev t_Mo_goRamp_79 : List UInt8 := 180 :: 0 :: 193 :: t_Mo_goRamp_82
abbrev t_Mo_goRamp_78 : List UInt8 := 42 :: t_Mo_goRamp_79
abbrev t_Mo_goRamp_75 : List UInt8 := 158 :: 0 :: 71 :: t_Mo_goRamp_78
abbrev t_Mo_goRamp_74 : List UInt8 := 148 :: t_Mo_goRamp_75
abbrev t_Mo_goRamp_73 : List UInt8 := 9 :: t_Mo_goRamp_74
abbrev t_Mo_goRamp_72 : List UInt8 := 32 :: t_Mo_goRamp_73
abbrev t_Mo_goRamp_71 : List UInt8 := 172 :: t_Mo_goRamp_72
abbrev t_Mo_goRamp_70 : List UInt8 := 4 :: t_Mo_goRamp_71
abbrev t_Mo_goRamp_69 : List UInt8 := 80 :: t_Mo_goRamp_70
abbrev t_Mo_goRamp_68 : List UInt8 := 47 :: t_Mo_goRamp_69
abbrev t_Mo_goRamp_67 : List UInt8 := 27 :: t_Mo_goRamp_68
abbrev t_Mo_goRamp_64 : List UInt8 := 180 :: 0 :: 193 :: t_Mo_goRamp_67
abbrev t_Mo_goRamp_63 : List UInt8 := 42 :: t_Mo_goRamp_64
abbrev t_Mo_goRamp_61 : List UInt8 := 21 :: 4 :: t_Mo_goRamp_63
abbrev t_Mo_goRamp_58 : List UInt8 := 180 :: 0 :: 159 :: t_Mo_goRamp_61
abbrev t_Mo_goRamp_57 : List UInt8 := 42 :: t_Mo_goRamp_58
abbrev t_Mo_goRamp_54 : List UInt8 := 155 :: 0 :: 18 :: t_Mo_goRamp_57
abbrev t_Mo_goRamp_53 : List UInt8 := 148 :: t_Mo_goRamp_54
abbrev t_Mo_goRamp_52 : List UInt8 := 47 :: t_Mo_goRamp_53
abbrev t_Mo_goRamp_51 : List UInt8 := 27 :: t_Mo_goRamp_52
abbrev t_Mo_goRamp_48 : List UInt8 := 180 :: 0 :: 190 :: t_Mo_goRamp_51
abbrev t_Mo_goRamp_47 : List UInt8 := 42 :: t_Mo_goRamp_48
abbrev t_Mo_goRamp_46 : List UInt8 := 32 :: t_Mo_goRamp_47
abbrev t_Mo_goRamp_43 : List UInt8 := 154 :: 0 :: 14 :: t_Mo_goRamp_46
abbrev t_Mo_goRamp_42 : List UInt8 := 51 :: t_Mo_goRamp_43
abbrev t_Mo_goRamp_41 : List UInt8 := 27 :: t_Mo_goRamp_42
abbrev t_Mo_goRamp_38 : List UInt8 := 180 :: 0 :: 178 :: t_Mo_goRamp_41
abbrev t_Mo_goRamp_37 : List UInt8 := 42 :: t_Mo_goRamp_38
abbrev t_Mo_goRamp_35 : List UInt8 := 54 :: 4 :: t_Mo_goRamp_37
abbrev t_Mo_goRamp_34 : List UInt8 := 136 :: t_Mo_goRamp_35
abbrev t_Mo_goRamp_33 : List UInt8 := 47 :: t_Mo_goRamp_34
abbrev t_Mo_goRamp_30 : List UInt8 := 182 :: 1 :: 231 :: t_Mo_goRamp_33
abbrev t_Mo_goRamp_29 : List UInt8 := 46 :: t_Mo_goRamp_30
abbrev t_Mo_goRamp_28 : List UInt8 := 27 :: t_Mo_goRamp_29
abbrev t_Mo_goRamp_25 : List UInt8 := 180 :: 0 :: 166 :: t_Mo_goRamp_28
abbrev t_Mo_goRamp_24 : List UInt8 := 42 :: t_Mo_goRamp_25
abbrev t_Mo_goRamp_21 : List UInt8 := 180 :: 0 :: 16 :: t_Mo_goRamp_24
abbrev t_Mo_goRamp_20 : List UInt8 := 42 :: t_Mo_goRamp_21
abbrev t_Mo_goRamp_17 : List UInt8 := 180 :: 1 :: 243 :: t_Mo_goRamp_20
abbrev t_Mo_goRamp_14 : List UInt8 := 180 :: 0 :: 16 :: t_Mo_goRamp_17
abbrev t_Mo_goRamp_13 : List UInt8 := 42 :: t_Mo_goRamp_14
abbrev t_Mo_goRamp_12 : List UInt8 := 65 :: t_Mo_goRamp_13
abbrev t_Mo_goRamp_11 : List UInt8 := 133 :: t_Mo_goRamp_12
abbrev t_Mo_goRamp_10 : List UInt8 := 100 :: t_Mo_goRamp_11
abbrev t_Mo_goRamp_9 : List UInt8 := 46 :: t_Mo_goRamp_10
abbrev t_Mo_goRamp_8 : List UInt8 := 27 :: t_Mo_goRamp_9
abbrev t_Mo_goRamp_5 : List UInt8 := 180 :: 0 :: 187 :: t_Mo_goRamp_8
abbrev t_Mo_goRamp_4 : List UInt8 := 42 :: t_Mo_goRamp_5
abbrev t_Mo_goRamp_1 : List UInt8 := 180 :: 2 :: 8 :: t_Mo_goRamp_4
abbrev t_Mo_goRamp_0 : List UInt8 := 42 :: t_Mo_goRamp_1
theorem a_Mo_goRamp_0 : dk_at b_Mo_goRamp 0 t_Mo_goRamp_0 := dk_start (by decide +kernel)
theorem a_Mo_goRamp_1 : dk_at b_Mo_goRamp 1 t_Mo_goRamp_1 := dk_go 1 a_Mo_goRamp_0 rfl
theorem a_Mo_goRamp_4 : dk_at b_Mo_goRamp 4 t_Mo_goRamp_4 := dk_go 3 a_Mo_goRamp_1 rfl
theorem a_Mo_goRamp_5 : dk_at b_Mo_goRamp 5 t_Mo_goRamp_5 := dk_go 1 a_Mo_goRamp_4 rfl
theorem a_Mo_goRamp_8 : dk_at b_Mo_goRamp 8 t_Mo_goRamp_8 := dk_go 3 a_Mo_goRamp_5 rfl
theorem a_Mo_goRamp_9 : dk_at b_Mo_goRamp 9 t_Mo_goRamp_9 := dk_go 1 a_Mo_goRamp_8 rfl
theorem a_Mo_goRamp_10 : dk_at b_Mo_goRamp 10 t_Mo_goRamp_10 := dk_go 1 a_Mo_goRamp_9 rfl
theorem a_Mo_goRamp_11 : dk_at b_Mo_goRamp 11 t_Mo_goRamp_11 := dk_go 1 a_Mo_goRamp_10 rfl
theorem a_Mo_goRamp_12 : dk_at b_Mo_goRamp 12 t_Mo_goRamp_12 := dk_go 1 a_Mo_goRamp_11 rfl
theorem a_Mo_goRamp_13 : dk_at b_Mo_goRamp 13 t_Mo_goRamp_13 := dk_go 1 a_Mo_goRamp_12 rfl
theorem a_Mo_goRamp_14 : dk_at b_Mo_goRamp 14 t_Mo_goRamp_14 := dk_go 1 a_Mo_goRamp_13 rfl
theorem a_Mo_goRamp_17 : dk_at b_Mo_goRamp 17 t_Mo_goRamp_17 := dk_go 3 a_Mo_goRamp_14 rfl
theorem a_Mo_goRamp_20 : dk_at b_Mo_goRamp 20 t_Mo_goRamp_20 := dk_go 3 a_Mo_goRamp_17 rfl
theorem a_Mo_goRamp_21 : dk_at b_Mo_goRamp 21 t_Mo_goRamp_21 := dk_go 1 a_Mo_goRamp_20 rfl
theorem a_Mo_goRamp_24 : dk_at b_Mo_goRamp 24 t_Mo_goRamp_24 := dk_go 3 a_Mo_goRamp_21 rfl
theorem a_Mo_goRamp_25 : dk_at b_Mo_goRamp 25 t_Mo_goRamp_25 := dk_go 1 a_Mo_goRamp_24 rfl
theorem a_Mo_goRamp_28 : dk_at b_Mo_goRamp 28 t_Mo_goRamp_28 := dk_go 3 a_Mo_goRamp_25 rfl
theorem a_Mo_goRamp_29 : dk_at b_Mo_goRamp 29 t_Mo_goRamp_29 := dk_go 1 a_Mo_goRamp_28 rfl
theorem a_Mo_goRamp_30 : dk_at b_Mo_goRamp 30 t_Mo_goRamp_30 := dk_go 1 a_Mo_goRamp_29 rfl
theorem a_Mo_goRamp_33 : dk_at b_Mo_goRamp 33 t_Mo_goRamp_33 := dk_go 3 a_Mo_goRamp_30 rfl
theorem a_Mo_goRamp_34 : dk_at b_Mo_goRamp 34 t_Mo_goRamp_34 := dk_go 1 a_Mo_goRamp_33 rfl
theorem a_Mo_goRamp_35 : dk_at b_Mo_goRamp 35 t_Mo_goRamp_35 := dk_go 1 a_Mo_goRamp_34 rfl
theorem a_Mo_goRamp_37 : dk_at b_Mo_goRamp 37 t_Mo_goRamp_37 := dk_go 2 a_Mo_goRamp_35 rfl
theorem a_Mo_goRamp_38 : dk_at b_Mo_goRamp 38 t_Mo_goRamp_38 := dk_go 1 a_Mo_goRamp_37 rfl
theorem a_Mo_goRamp_41 : dk_at b_Mo_goRamp 41 t_Mo_goRamp_41 := dk_go 3 a_Mo_goRamp_38 rfl
theorem a_Mo_goRamp_42 : dk_at b_Mo_goRamp 42 t_Mo_goRamp_42 := dk_go 1 a_Mo_goRamp_41 rfl
theorem a_Mo_goRamp_43 : dk_at b_Mo_goRamp 43 t_Mo_goRamp_43 := dk_go 1 a_Mo_goRamp_42 rfl
theorem a_Mo_goRamp_46 : dk_at b_Mo_goRamp 46 t_Mo_goRamp_46 := dk_go 3 a_Mo_goRamp_43 rfl
theorem a_Mo_goRamp_47 : dk_at b_Mo_goRamp 47 t_Mo_goRamp_47 := dk_go 1 a_Mo_goRamp_46 rfl
theorem a_Mo_goRamp_48 : dk_at b_Mo_goRamp 48 t_Mo_goRamp_48 := dk_go 1 a_Mo_goRamp_47 rfl
theorem a_Mo_goRamp_51 : dk_at b_Mo_goRamp 51 t_Mo_goRamp_51 := dk_go 3 a_Mo_goRamp_48 rfl
theorem a_Mo_goRamp_52 : dk_at b_Mo_goRamp 52 t_Mo_goRamp_52 := dk_go 1 a_Mo_goRamp_51 rfl
theorem a_Mo_goRamp_53 : dk_at b_Mo_goRamp 53 t_Mo_goRamp_53 := dk_go 1 a_Mo_goRamp_52 rfl
theorem a_Mo_goRamp_54 : dk_at b_Mo_goRamp 54 t_Mo_goRamp_54 := dk_go 1 a_Mo_goRamp_53 rfl
theorem a_Mo_goRamp_57 : dk_at b_Mo_goRamp 57 t_Mo_goRamp_57 := dk_go 3 a_Mo_goRamp_54 rfl
theorem a_Mo_goRamp_58 : dk_at b_Mo_goRamp 58 t_Mo_goRamp_58 := dk_go 1 a_Mo_goRamp_57 rfl
theorem a_Mo_goRamp_61 : dk_at b_Mo_goRamp 61 t_Mo_goRamp_61 := dk_go 3 a_Mo_goRamp_58 rfl
theorem a_Mo_goRamp_63 : dk_at b_Mo_goRamp 63 t_Mo_goRamp_63 := dk_go 2 a_Mo_goRamp_61 rfl
theorem a_Mo_goRamp_64 : dk_at b_Mo_goRamp 64 t_Mo_goRamp_64 := dk_go 1 a_Mo_goRamp_63 rfl
theorem a_Mo_goRamp_67 : dk_at b_Mo_goRamp 67 t_Mo_goRamp_67 := dk_go 3 a_Mo_goRamp_64 rfl
theorem a_Mo_goRamp_68 : dk_at b_Mo_goRamp 68 t_Mo_goRamp_68 := dk_go 1 a_Mo_goRamp_67 rfl
theorem a_Mo_goRamp_69 : dk_at b_Mo_goRamp 69 t_Mo_goRamp_69 := dk_go 1 a_Mo_goRamp_68 rfl
theorem a_Mo_goRamp_70 : dk_at b_Mo_goRamp 70 t_Mo_goRamp_70 := dk_go 1 a_Mo_goRamp_69 rfl
theorem a_Mo_goRamp_71 : dk_at b_Mo_goRamp 71 t_Mo_goRamp_71 := dk_go 1 a_Mo_goRamp_70 rfl
theorem a_Mo_goRamp_72 : dk_at b_Mo_goRamp 72 t_Mo_goRamp_72 := dk_go 1 a_Mo_goRamp_71 rfl
theorem a_Mo_goRamp_73 : dk_at b_Mo_goRamp 73 t_Mo_goRamp_73 := dk_go 1 a_Mo_goRamp_72 rfl
theorem a_Mo_goRamp_74 : dk_at b_Mo_goRamp 74 t_Mo_goRamp_74 := dk_go 1 a_Mo_goRamp_73 rfl
theorem a_Mo_goRamp_75 : dk_at b_Mo_goRamp 75 t_Mo_goRamp_75 := dk_go 1 a_Mo_goRamp_74 rfl
theorem a_Mo_goRamp_78 : dk_at b_Mo_goRamp 78 t_Mo_goRamp_78 := dk_go 3 a_Mo_goRamp_75 rfl
theorem a_Mo_goRamp_79 : dk_at b_Mo_goRamp 79 t_Mo_goRamp_79 := dk_go 1 a_Mo_goRamp_78 rfl
theorem a_Mo_goRamp_82 : dk_at b_Mo_goRamp 82 t_Mo_goRamp_82 := dk_go 3 a_Mo_goRamp_79 rfl
theorem a_Mo_goRamp_83 : dk_at b_Mo_goRamp 83 t_Mo_goRamp_83 := dk_go 1 a_Mo_goRamp_82 rfl
theorem a_Mo_goRamp_84 : dk_at b_Mo_goRamp 84 t_Mo_goRamp_84 := dk_go 1 a_Mo_goRamp_83 rfl
theorem a_Mo_goRamp_85 : dk_at b_Mo_goRamp 85 t_Mo_goRamp_85 := dk_go 1 a_Mo_goRamp_84 rfl
theorem a_Mo_goRamp_88 : dk_at b_Mo_goRamp 88 t_Mo_goRamp_88 := dk_go 3 a_Mo_goRamp_85 rfl
theorem a_Mo_goRamp_89 : dk_at b_Mo_goRamp 89 t_Mo_goRamp_89 := dk_go 1 a_Mo_goRamp_88 rfl
theorem a_Mo_goRamp_90 : dk_at b_Mo_goRamp 90 t_Mo_goRamp_90 := dk_go 1 a_Mo_goRamp_89 rfl
theorem a_Mo_goRamp_91 : dk_at b_Mo_goRamp 91 t_Mo_goRamp_91 := dk_go 1 a_Mo_goRamp_90 rfl
theorem a_Mo_goRamp_92 : dk_at b_Mo_goRamp 92 t_Mo_goRamp_92 := dk_go 1 a_Mo_goRamp_91 rfl
theorem a_Mo_goRamp_93 : dk_at b_Mo_goRamp 93 t_Mo_goRamp_93 := dk_go 1 a_Mo_goRamp_92 rfl
theorem a_Mo_goRamp_95 : dk_at b_Mo_goRamp 95 t_Mo_goRamp_95 := dk_go 2 a_Mo_goRamp_93 rfl
theorem a_Mo_goRamp_97 : dk_at b_Mo_goRamp 97 t_Mo_goRamp_97 := dk_go 2 a_Mo_goRamp_95 rfl
theorem a_Mo_goRamp_98 : dk_at b_Mo_goRamp 98 t_Mo_goRamp_98 := dk_go 1 a_Mo_goRamp_97 rfl
theorem a_Mo_goRamp_101 : dk_at b_Mo_goRamp 101 t_Mo_goRamp_101 := dk_go 3 a_Mo_goRamp_98 rfl
theorem a_Mo_goRamp_102 : dk_at b_Mo_goRamp 102 t_Mo_goRamp_102 := dk_go 1 a_Mo_goRamp_101 rfl
theorem a_Mo_goRamp_103 : dk_at b_Mo_goRamp 103 t_Mo_goRamp_103 := dk_go 1 a_Mo_goRamp_102 rfl
theorem a_Mo_goRamp_104 : dk_at b_Mo_goRamp 104 t_Mo_goRamp_104 := dk_go 1 a_Mo_goRamp_103 rfl
theorem a_Mo_goRamp_106 : dk_at b_Mo_goRamp 106 t_Mo_goRamp_106 := dk_go 2 a_Mo_goRamp_104 rfl
theorem a_Mo_goRamp_108 : dk_at b_Mo_goRamp 108 t_Mo_goRamp_108 := dk_go 2 a_Mo_goRamp_106 rfl
theorem a_Mo_goRamp_110 : dk_at b_Mo_goRamp 110 t_Mo_goRamp_110 := dk_go 2 a_Mo_goRamp_108 rfl
theorem a_Mo_goRamp_111 : dk_at b_Mo_goRamp 111 t_Mo_goRamp_111 := dk_go 1 a_Mo_goRamp_110 rfl
theorem a_Mo_goRamp_114 : dk_at b_Mo_goRamp 114 t_Mo_goRamp_114 := dk_go 3 a_Mo_goRamp_111 rfl
theorem a_Mo_goRamp_115 : dk_at b_Mo_goRamp 115 t_Mo_goRamp_115 := dk_go 1 a_Mo_goRamp_114 rfl
theorem a_Mo_goRamp_116 : dk_at b_Mo_goRamp 116 t_Mo_goRamp_116 := dk_go 1 a_Mo_goRamp_115 rfl
theorem a_Mo_goRamp_117 : dk_at b_Mo_goRamp 117 t_Mo_goRamp_117 := dk_go 1 a_Mo_goRamp_116 rfl
theorem a_Mo_goRamp_118 : dk_at b_Mo_goRamp 118 t_Mo_goRamp_118 := dk_go 1 a_Mo_goRamp_117 rfl
theorem a_Mo_goRamp_119 : dk_at b_Mo_goRamp 119 t_Mo_goRamp_119 := dk_go 1 a_Mo_goRamp_118 rfl
theorem a_Mo_goRamp_122 : dk_at b_Mo_goRamp 122 t_Mo_goRamp_122 := dk_go 3 a_Mo_goRamp_119 rfl
theorem a_Mo_goRamp_123 : dk_at b_Mo_goRamp 123 t_Mo_goRamp_123 := dk_go 1 a_Mo_goRamp_122 rfl
theorem a_Mo_goRamp_126 : dk_at b_Mo_goRamp 126 t_Mo_goRamp_126 := dk_go 3 a_Mo_goRamp_123 rfl
theorem a_Mo_goRamp_127 : dk_at b_Mo_goRamp 127 t_Mo_goRamp_127 := dk_go 1 a_Mo_goRamp_126 rfl
theorem a_Mo_goRamp_128 : dk_at b_Mo_goRamp 128 t_Mo_goRamp_128 := dk_go 1 a_Mo_goRamp_127 rfl
theorem a_Mo_goRamp_130 : dk_at b_Mo_goRamp 130 t_Mo_goRamp_130 := dk_go 2 a_Mo_goRamp_128 rfl
theorem a_Mo_goRamp_131 : dk_at b_Mo_goRamp 131 t_Mo_goRamp_131 := dk_go 1 a_Mo_goRamp_130 rfl
theorem a_Mo_goRamp_134 : dk_at b_Mo_goRamp 134 t_Mo_goRamp_134 := dk_go 3 a_Mo_goRamp_131 rfl
theorem a_Mo_goRamp_136 : dk_at b_Mo_goRamp 136 t_Mo_goRamp_136 := dk_go 2 a_Mo_goRamp_134 rfl
theorem a_Mo_goRamp_137 : dk_at b_Mo_goRamp 137 t_Mo_goRamp_137 := dk_go 1 a_Mo_goRamp_136 rfl
theorem a_Mo_goRamp_140 : dk_at b_Mo_goRamp 140 t_Mo_goRamp_140 := dk_go 3 a_Mo_goRamp_137 rfl
theorem a_Mo_goRamp_141 : dk_at b_Mo_goRamp 141 t_Mo_goRamp_141 := dk_go 1 a_Mo_goRamp_140 rfl
theorem a_Mo_goRamp_142 : dk_at b_Mo_goRamp 142 t_Mo_goRamp_142 := dk_go 1 a_Mo_goRamp_141 rfl
theorem a_Mo_goRamp_144 : dk_at b_Mo_goRamp 144 t_Mo_goRamp_144 := dk_go 2 a_Mo_goRamp_142 rfl
theorem a_Mo_goRamp_145 : dk_at b_Mo_goRamp 145 t_Mo_goRamp_145 := dk_go 1 a_Mo_goRamp_144 rfl
theorem a_Mo_goRamp_146 : dk_at b_Mo_goRamp 146 t_Mo_goRamp_146 := dk_go 1 a_Mo_goRamp_145 rfl
theorem a_Mo_goRamp_147 : dk_at b_Mo_goRamp 147 t_Mo_goRamp_147 := dk_go 1 a_Mo_goRamp_146 rfl
theorem d_Mo_goRamp_0 : decode b_Mo_goRamp 0 = .ok (.aload_n 0, 1) := dk_0 a_Mo_goRamp_0 (dko_42 _)
theorem d_Mo_goRamp_1 : decode b_Mo_goRamp 1 = .ok (.getfield 520, 3) := dk_U2 a_Mo_goRamp_1 (dko_180 _) rfl
theorem d_Mo_goRamp_4 : decode b_Mo_goRamp 4 = .ok (.aload_n 0, 1) := dk_0 a_Mo_goRamp_4 (dko_42 _)
theorem d_Mo_goRamp_5 : decode b_Mo_goRamp 5 = .ok (.getfield 187, 3) := dk_U2 a_Mo_goRamp_5 (dko_180 _) rfl
theorem d_Mo_goRamp_8 : decode b_Mo_goRamp 8 = .ok (.iload_n 1, 1) := dk_0 a_Mo_goRamp_8 (dko_27 _)
theorem d_Mo_goRamp_9 : decode b_Mo_goRamp 9 = .ok (.iaload, 1) := dk_0 a_Mo_goRamp_9 (dko_46 _)
theorem d_Mo_goRamp_10 : decode b_Mo_goRamp 10 = .ok (.isub, 1) := dk_0 a_Mo_goRamp_10 (dko_100 _)
theorem d_Mo_goRamp_11 : decode b_Mo_goRamp 11 = .ok (.i2l, 1) := dk_0 a_Mo_goRamp_11 (dko_133 _)
theorem d_Mo_goRamp_12 : decode b_Mo_goRamp 12 = .ok (.lstore_n 2, 1) := dk_0 a_Mo_goRamp_12 (dko_65 _)
theorem d_Mo_goRamp_13 : decode b_Mo_goRamp 13 = .ok (.aload_n 0, 1) := dk_0 a_Mo_goRamp_13 (dko_42 _)
theorem d_Mo_goRamp_14 : decode b_Mo_goRamp 14 = .ok (.getfield 16, 3) := dk_U2 a_Mo_goRamp_14 (dko_180 _) rfl
theorem d_Mo_goRamp_17 : decode b_Mo_goRamp 17 = .ok (.getfield 499, 3) := dk_U2 a_Mo_goRamp_17 (dko_180 _) rfl
theorem d_Mo_goRamp_20 : decode b_Mo_goRamp 20 = .ok (.aload_n 0, 1) := dk_0 a_Mo_goRamp_20 (dko_42 _)
theorem d_Mo_goRamp_21 : decode b_Mo_goRamp 21 = .ok (.getfield 16, 3) := dk_U2 a_Mo_goRamp_21 (dko_180 _) rfl
theorem d_Mo_goRamp_24 : decode b_Mo_goRamp 24 = .ok (.aload_n 0, 1) := dk_0 a_Mo_goRamp_24 (dko_42 _)
theorem d_Mo_goRamp_25 : decode b_Mo_goRamp 25 = .ok (.getfield 166, 3) := dk_U2 a_Mo_goRamp_25 (dko_180 _) rfl
theorem d_Mo_goRamp_28 : decode b_Mo_goRamp 28 = .ok (.iload_n 1, 1) := dk_0 a_Mo_goRamp_28 (dko_27 _)
theorem d_Mo_goRamp_29 : decode b_Mo_goRamp 29 = .ok (.iaload, 1) := dk_0 a_Mo_goRamp_29 (dko_46 _)
theorem d_Mo_goRamp_30 : decode b_Mo_goRamp 30 = .ok (.invokevirtual 487, 3) := dk_U2 a_Mo_goRamp_30 (dko_182 _) rfl
theorem d_Mo_goRamp_33 : decode b_Mo_goRamp 33 = .ok (.laload, 1) := dk_0 a_Mo_goRamp_33 (dko_47 _)
theorem d_Mo_goRamp_34 : decode b_Mo_goRamp 34 = .ok (.l2i, 1) := dk_0 a_Mo_goRamp_34 (dko_136 _)
theorem d_Mo_goRamp_35 : decode b_Mo_goRamp 35 = .ok (.istore 4, 2) := dk_U1 a_Mo_goRamp_35 (dko_54 _) rfl
theorem d_Mo_goRamp_37 : decode b_Mo_goRamp 37 = .ok (.aload_n 0, 1) := dk_0 a_Mo_goRamp_37 (dko_42 _)
theorem d_Mo_goRamp_38 : decode b_Mo_goRamp 38 = .ok (.getfield 178, 3) := dk_U2 a_Mo_goRamp_38 (dko_180 _) rfl
theorem d_Mo_goRamp_41 : decode b_Mo_goRamp 41 = .ok (.iload_n 1, 1) := dk_0 a_Mo_goRamp_41 (dko_27 _)
theorem d_Mo_goRamp_42 : decode b_Mo_goRamp 42 = .ok (.baload, 1) := dk_0 a_Mo_goRamp_42 (dko_51 _)
theorem d_Mo_goRamp_43 : decode b_Mo_goRamp 43 = .ok (.ifCond .ne 14, 3) := dk_S2 a_Mo_goRamp_43 (dko_154 _) (by decide +kernel)
theorem d_Mo_goRamp_46 : decode b_Mo_goRamp 46 = .ok (.lload_n 2, 1) := dk_0 a_Mo_goRamp_46 (dko_32 _)
theorem d_Mo_goRamp_47 : decode b_Mo_goRamp 47 = .ok (.aload_n 0, 1) := dk_0 a_Mo_goRamp_47 (dko_42 _)
theorem d_Mo_goRamp_48 : decode b_Mo_goRamp 48 = .ok (.getfield 190, 3) := dk_U2 a_Mo_goRamp_48 (dko_180 _) rfl
theorem d_Mo_goRamp_51 : decode b_Mo_goRamp 51 = .ok (.iload_n 1, 1) := dk_0 a_Mo_goRamp_51 (dko_27 _)
theorem d_Mo_goRamp_52 : decode b_Mo_goRamp 52 = .ok (.laload, 1) := dk_0 a_Mo_goRamp_52 (dko_47 _)
theorem d_Mo_goRamp_53 : decode b_Mo_goRamp 53 = .ok (.lcmp, 1) := dk_0 a_Mo_goRamp_53 (dko_148 _)
theorem d_Mo_goRamp_54 : decode b_Mo_goRamp 54 = .ok (.ifCond .lt 18, 3) := dk_S2 a_Mo_goRamp_54 (dko_155 _) (by decide +kernel)
theorem d_Mo_goRamp_57 : decode b_Mo_goRamp 57 = .ok (.aload_n 0, 1) := dk_0 a_Mo_goRamp_57 (dko_42 _)
theorem d_Mo_goRamp_58 : decode b_Mo_goRamp 58 = .ok (.getfield 159, 3) := dk_U2 a_Mo_goRamp_58 (dko_180 _) rfl
theorem d_Mo_goRamp_61 : decode b_Mo_goRamp 61 = .ok (.iload 4, 2) := dk_U1 a_Mo_goRamp_61 (dko_21 _) rfl
theorem d_Mo_goRamp_63 : decode b_Mo_goRamp 63 = .ok (.aload_n 0, 1) := dk_0 a_Mo_goRamp_63 (dko_42 _)
theorem d_Mo_goRamp_64 : decode b_Mo_goRamp 64 = .ok (.getfield 193, 3) := dk_U2 a_Mo_goRamp_64 (dko_180 _) rfl
theorem d_Mo_goRamp_67 : decode b_Mo_goRamp 67 = .ok (.iload_n 1, 1) := dk_0 a_Mo_goRamp_67 (dko_27 _)
theorem d_Mo_goRamp_68 : decode b_Mo_goRamp 68 = .ok (.laload, 1) := dk_0 a_Mo_goRamp_68 (dko_47 _)
theorem d_Mo_goRamp_69 : decode b_Mo_goRamp 69 = .ok (.lastore, 1) := dk_0 a_Mo_goRamp_69 (dko_80 _)
theorem d_Mo_goRamp_70 : decode b_Mo_goRamp 70 = .ok (.iconst 1, 1) := dk_0 a_Mo_goRamp_70 (dko_4 _)
theorem d_Mo_goRamp_71 : decode b_Mo_goRamp 71 = .ok (.ireturn, 1) := dk_0 a_Mo_goRamp_71 (dko_172 _)
theorem d_Mo_goRamp_72 : decode b_Mo_goRamp 72 = .ok (.lload_n 2, 1) := dk_0 a_Mo_goRamp_72 (dko_32 _)
theorem d_Mo_goRamp_73 : decode b_Mo_goRamp 73 = .ok (.lconst 0, 1) := dk_0 a_Mo_goRamp_73 (dko_9 _)
theorem d_Mo_goRamp_74 : decode b_Mo_goRamp 74 = .ok (.lcmp, 1) := dk_0 a_Mo_goRamp_74 (dko_148 _)
theorem d_Mo_goRamp_75 : decode b_Mo_goRamp 75 = .ok (.ifCond .le 71, 3) := dk_S2 a_Mo_goRamp_75 (dko_158 _) (by decide +kernel)
theorem d_Mo_goRamp_78 : decode b_Mo_goRamp 78 = .ok (.aload_n 0, 1) := dk_0 a_Mo_goRamp_78 (dko_42 _)
theorem d_Mo_goRamp_79 : decode b_Mo_goRamp 79 = .ok (.getfield 193, 3) := dk_U2 a_Mo_goRamp_79 (dko_180 _) rfl
theorem d_Mo_goRamp_82 : decode b_Mo_goRamp 82 = .ok (.iload_n 1, 1) := dk_0 a_Mo_goRamp_82 (dko_27 _)
theorem d_Mo_goRamp_83 : decode b_Mo_goRamp 83 = .ok (.laload, 1) := dk_0 a_Mo_goRamp_83 (dko_47 _)
theorem d_Mo_goRamp_84 : decode b_Mo_goRamp 84 = .ok (.aload_n 0, 1) := dk_0 a_Mo_goRamp_84 (dko_42 _)
theorem d_Mo_goRamp_85 : decode b_Mo_goRamp 85 = .ok (.getfield 196, 3) := dk_U2 a_Mo_goRamp_85 (dko_180 _) rfl
theorem d_Mo_goRamp_88 : decode b_Mo_goRamp 88 = .ok (.iload_n 1, 1) := dk_0 a_Mo_goRamp_88 (dko_27 _)
theorem d_Mo_goRamp_89 : decode b_Mo_goRamp 89 = .ok (.laload, 1) := dk_0 a_Mo_goRamp_89 (dko_47 _)
theorem d_Mo_goRamp_90 : decode b_Mo_goRamp 90 = .ok (.lsub, 1) := dk_0 a_Mo_goRamp_90 (dko_101 _)
theorem d_Mo_goRamp_91 : decode b_Mo_goRamp 91 = .ok (.lload_n 2, 1) := dk_0 a_Mo_goRamp_91 (dko_32 _)
theorem d_Mo_goRamp_92 : decode b_Mo_goRamp 92 = .ok (.lmul, 1) := dk_0 a_Mo_goRamp_92 (dko_105 _)
theorem d_Mo_goRamp_93 : decode b_Mo_goRamp 93 = .ok (.lstore 5, 2) := dk_U1 a_Mo_goRamp_93 (dko_55 _) rfl
theorem d_Mo_goRamp_95 : decode b_Mo_goRamp 95 = .ok (.lload 5, 2) := dk_U1 a_Mo_goRamp_95 (dko_22 _) rfl
theorem d_Mo_goRamp_97 : decode b_Mo_goRamp 97 = .ok (.aload_n 0, 1) := dk_0 a_Mo_goRamp_97 (dko_42 _)
theorem d_Mo_goRamp_98 : decode b_Mo_goRamp 98 = .ok (.getfield 190, 3) := dk_U2 a_Mo_goRamp_98 (dko_180 _) rfl
theorem d_Mo_goRamp_101 : decode b_Mo_goRamp 101 = .ok (.iload_n 1, 1) := dk_0 a_Mo_goRamp_101 (dko_27 _)
theorem d_Mo_goRamp_102 : decode b_Mo_goRamp 102 = .ok (.laload, 1) := dk_0 a_Mo_goRamp_102 (dko_47 _)
theorem d_Mo_goRamp_103 : decode b_Mo_goRamp 103 = .ok (.ldiv, 1) := dk_0 a_Mo_goRamp_103 (dko_109 _)
theorem d_Mo_goRamp_104 : decode b_Mo_goRamp 104 = .ok (.lstore 7, 2) := dk_U1 a_Mo_goRamp_104 (dko_55 _) rfl
theorem d_Mo_goRamp_106 : decode b_Mo_goRamp 106 = .ok (.lload 7, 2) := dk_U1 a_Mo_goRamp_106 (dko_22 _) rfl
theorem d_Mo_goRamp_108 : decode b_Mo_goRamp 108 = .ok (.lload 5, 2) := dk_U1 a_Mo_goRamp_108 (dko_22 _) rfl
theorem d_Mo_goRamp_110 : decode b_Mo_goRamp 110 = .ok (.aload_n 0, 1) := dk_0 a_Mo_goRamp_110 (dko_42 _)
theorem d_Mo_goRamp_111 : decode b_Mo_goRamp 111 = .ok (.getfield 190, 3) := dk_U2 a_Mo_goRamp_111 (dko_180 _) rfl
theorem d_Mo_goRamp_114 : decode b_Mo_goRamp 114 = .ok (.iload_n 1, 1) := dk_0 a_Mo_goRamp_114 (dko_27 _)
theorem d_Mo_goRamp_115 : decode b_Mo_goRamp 115 = .ok (.laload, 1) := dk_0 a_Mo_goRamp_115 (dko_47 _)
theorem d_Mo_goRamp_116 : decode b_Mo_goRamp 116 = .ok (.lrem, 1) := dk_0 a_Mo_goRamp_116 (dko_113 _)
theorem d_Mo_goRamp_117 : decode b_Mo_goRamp 117 = .ok (.lconst 0, 1) := dk_0 a_Mo_goRamp_117 (dko_9 _)
theorem d_Mo_goRamp_118 : decode b_Mo_goRamp 118 = .ok (.lcmp, 1) := dk_0 a_Mo_goRamp_118 (dko_148 _)
theorem d_Mo_goRamp_119 : decode b_Mo_goRamp 119 = .ok (.ifCond .ge 7, 3) := dk_S2 a_Mo_goRamp_119 (dko_156 _) (by decide +kernel)
theorem d_Mo_goRamp_122 : decode b_Mo_goRamp 122 = .ok (.lconst 1, 1) := dk_0 a_Mo_goRamp_122 (dko_10 _)
theorem d_Mo_goRamp_123 : decode b_Mo_goRamp 123 = .ok (.goto 4, 3) := dk_S2 a_Mo_goRamp_123 (dko_167 _) (by decide +kernel)
theorem d_Mo_goRamp_126 : decode b_Mo_goRamp 126 = .ok (.lconst 0, 1) := dk_0 a_Mo_goRamp_126 (dko_9 _)
theorem d_Mo_goRamp_127 : decode b_Mo_goRamp 127 = .ok (.lsub, 1) := dk_0 a_Mo_goRamp_127 (dko_101 _)
theorem d_Mo_goRamp_128 : decode b_Mo_goRamp 128 = .ok (.lstore 7, 2) := dk_U1 a_Mo_goRamp_128 (dko_55 _) rfl
theorem d_Mo_goRamp_130 : decode b_Mo_goRamp 130 = .ok (.aload_n 0, 1) := dk_0 a_Mo_goRamp_130 (dko_42 _)
theorem d_Mo_goRamp_131 : decode b_Mo_goRamp 131 = .ok (.getfield 159, 3) := dk_U2 a_Mo_goRamp_131 (dko_180 _) rfl
theorem d_Mo_goRamp_134 : decode b_Mo_goRamp 134 = .ok (.iload 4, 2) := dk_U1 a_Mo_goRamp_134 (dko_21 _) rfl
theorem d_Mo_goRamp_136 : decode b_Mo_goRamp 136 = .ok (.aload_n 0, 1) := dk_0 a_Mo_goRamp_136 (dko_42 _)
theorem d_Mo_goRamp_137 : decode b_Mo_goRamp 137 = .ok (.getfield 196, 3) := dk_U2 a_Mo_goRamp_137 (dko_180 _) rfl
theorem d_Mo_goRamp_140 : decode b_Mo_goRamp 140 = .ok (.iload_n 1, 1) := dk_0 a_Mo_goRamp_140 (dko_27 _)
theorem d_Mo_goRamp_141 : decode b_Mo_goRamp 141 = .ok (.laload, 1) := dk_0 a_Mo_goRamp_141 (dko_47 _)
theorem d_Mo_goRamp_142 : decode b_Mo_goRamp 142 = .ok (.lload 7, 2) := dk_U1 a_Mo_goRamp_142 (dko_22 _) rfl
theorem d_Mo_goRamp_144 : decode b_Mo_goRamp 144 = .ok (.ladd, 1) := dk_0 a_Mo_goRamp_144 (dko_97 _)
theorem d_Mo_goRamp_145 : decode b_Mo_goRamp 145 = .ok (.lastore, 1) := dk_0 a_Mo_goRamp_145 (dko_80 _)
theorem d_Mo_goRamp_146 : decode b_Mo_goRamp 146 = .ok (.iconst 0, 1) := dk_0 a_Mo_goRamp_146 (dko_3 _)
theorem d_Mo_goRamp_147 : decode b_Mo_goRamp 147 = .ok (.ireturn, 1) := dk_0 a_Mo_goRamp_147 (dko_172 _)
set_option maxHeartbeats 4000000 in
set_option maxRecDepth 100000 in
theorem ok_Mo_goRamp (pc : Nat) : OpS mt mi_Mo_goRamp pc (cs_Mo_goRamp pc) := (os_n (os_n (os_n (os_n (os_n (os_n (os_l (so_aload_n d_Mo_goRamp_0 rfl)) (os_l (so_get (C := R_Mo) (T := F_Mo) (N := 87) (j := 74) in_Mo rfl (by decide) mw_1868 d_Mo_goRamp_1))) (os_n (os_l (so_aload_n d_Mo_goRamp_4 rfl)) (os_n (os_l (so_get (C := R_Mo) (T := F_Mo) (N := 87) (j := 68) in_Mo rfl (by decide) mw_1862 d_Mo_goRamp_5)) (os_l (so_iload_n d_Mo_goRamp_8 rfl))))) (os_n (os_n (os_l (so_iaload d_Mo_goRamp_9)) (os_n (os_l (so_isub d_Mo_goRamp_10)) (os_l (so_i2l d_Mo_goRamp_11)))) (os_n (os_l (so_lstore_n d_Mo_goRamp_12 rfl (by decide))) (os_n (os_l (so_aload_n d_Mo_goRamp_13 rfl)) (os_l (so_get (C := R_Mo) (T := F_Mo) (N := 87) (j := 2) in_Mo rfl (by decide) mw_1796 d_Mo_goRamp_14)))))) (os_n (os_n (os_n (os_l (so_getN (C := R_Tx) (T := F_Tx) (N := 39) (j := 15) in_Tx rfl (by decide) nw_1597 d_Mo_goRamp_17)) (os_n (os_l (so_aload_n d_Mo_goRamp_20 rfl)) (os_l (so_get (C := R_Mo) (T := F_Mo) (N := 87) (j := 2) in_Mo rfl (by decide) mw_1796 d_Mo_goRamp_21)))) (os_n (os_l (so_aload_n d_Mo_goRamp_24 rfl)) (os_n (os_l (so_get (C := R_Mo) (T := F_Mo) (N := 87) (j := 61) in_Mo rfl (by decide) mw_1855 d_Mo_goRamp_25)) (os_l (so_iload_n d_Mo_goRamp_28 rfl))))) (os_n (os_n (os_l (so_iaload d_Mo_goRamp_29)) (os_n (os_l (so_callVN (iv := mi_Tx_node1) rfl rfl rfl nw_2578 mw_2580 sl_175 mw_19 mw_2581 ⟨by decide +kernel, by decide +kernel, by decide +kernel⟩ (by decide) d_Mo_goRamp_30)) (os_l (so_laload d_Mo_goRamp_33)))) (os_n (os_l (so_l2i d_Mo_goRamp_34)) (os_n (os_l (so_istore d_Mo_goRamp_35 (by decide))) (os_l (so_aload_n d_Mo_goRamp_37 rfl))))))) (os_n (os_n (os_n (os_n (os_l (so_get (C := R_Mo) (T := F_Mo) (N := 87) (j := 65) in_Mo rfl (by decide) mw_1859 d_Mo_goRamp_38)) (os_n (os_l (so_iload_n d_Mo_goRamp_41 rfl)) (os_l (so_baload d_Mo_goRamp_42)))) (os_n (os_l (so_ifne d_Mo_goRamp_43 (by decide))) (os_n (os_l (so_lload_n d_Mo_goRamp_46 rfl)) (os_l (so_aload_n d_Mo_goRamp_47 rfl))))) (os_n (os_n (os_l (so_get (C := R_Mo) (T := F_Mo) (N := 87) (j := 69) in_Mo rfl (by decide) mw_1863 d_Mo_goRamp_48)) (os_n (os_l (so_iload_n d_Mo_goRamp_51 rfl)) (os_l (so_laload d_Mo_goRamp_52)))) (os_n (os_l (so_lcmp d_Mo_goRamp_53)) (os_n (os_l (so_iflt d_Mo_goRamp_54 (by decide))) (os_l (so_aload_n d_Mo_goRamp_57 rfl)))))) (os_n (os_n (os_n (os_l (so_get (C := R_Mo) (T := F_Mo) (N := 87) (j := 58) in_Mo rfl (by decide) mw_1852 d_Mo_goRamp_58)) (os_n (os_l (so_iload d_Mo_goRamp_61)) (os_l (so_aload_n d_Mo_goRamp_63 rfl)))) (os_n (os_l (so_get (C := R_Mo) (T := F_Mo) (N := 87) (j := 70) in_Mo rfl (by decide) mw_1864 d_Mo_goRamp_64)) (os_n (os_l (so_iload_n d_Mo_goRamp_67 rfl)) (os_l (so_laload d_Mo_goRamp_68))))) (os_n (os_n (os_l (so_lastore d_Mo_goRamp_69)) (os_n (os_l (so_iconst d_Mo_goRamp_70 (by decide))) (os_l (so_ireturn rfl d_Mo_goRamp_71)))) (os_n (os_l (so_lload_n d_Mo_goRamp_72 rfl)) (os_n (os_l (so_lconst d_Mo_goRamp_73 (by decide))) (os_l (so_lcmp d_Mo_goRamp_74)))))))) (os_n (os_n (os_n (os_n (os_n (os_l (so_ifle d_Mo_goRamp_75 (by decide))) (os_l (so_aload_n d_Mo_goRamp_78 rfl))) (os_n (os_l (so_get (C := R_Mo) (T := F_Mo) (N := 87) (j := 70) in_Mo rfl (by decide) mw_1864 d_Mo_goRamp_79)) (os_n (os_l (so_iload_n d_Mo_goRamp_82 rfl)) (os_l (so_laload d_Mo_goRamp_83))))) (os_n (os_n (os_l (so_aload_n d_Mo_goRamp_84 rfl)) (os_n (os_l (so_get (C := R_Mo) (T := F_Mo) (N := 87) (j := 71) in_Mo rfl (by decide) mw_1865 d_Mo_goRamp_85)) (os_l (so_iload_n d_Mo_goRamp_88 rfl)))) (os_n (os_l (so_laload d_Mo_goRamp_89)) (os_n (os_l (so_lsub d_Mo_goRamp_90)) (os_l (so_lload_n d_Mo_goRamp_91 rfl)))))) (os_n (os_n (os_n (os_l (so_lmul d_Mo_goRamp_92)) (os_n (os_l (so_lstore d_Mo_goRamp_93 (by decide))) (os_l (so_lload d_Mo_goRamp_95)))) (os_n (os_l (so_aload_n d_Mo_goRamp_97 rfl)) (os_n (os_l (so_get (C := R_Mo) (T := F_Mo) (N := 87) (j := 69) in_Mo rfl (by decide) mw_1863 d_Mo_goRamp_98)) (os_l (so_iload_n d_Mo_goRamp_101 rfl))))) (os_n (os_n (os_l (so_laload d_Mo_goRamp_102)) (os_n (os_l (so_ldiv d_Mo_goRamp_103)) (os_l (so_lstore d_Mo_goRamp_104 (by decide))))) (os_n (os_l (so_lload d_Mo_goRamp_106)) (os_n (os_l (so_lload d_Mo_goRamp_108)) (os_l (so_aload_n d_Mo_goRamp_110 rfl))))))) (os_n (os_n (os_n (os_n (os_l (so_get (C := R_Mo) (T := F_Mo) (N := 87) (j := 69) in_Mo rfl (by decide) mw_1863 d_Mo_goRamp_111)) (os_n (os_l (so_iload_n d_Mo_goRamp_114 rfl)) (os_l (so_laload d_Mo_goRamp_115)))) (os_n (os_l (so_lrem d_Mo_goRamp_116)) (os_n (os_l (so_lconst d_Mo_goRamp_117 (by decide))) (os_l (so_lcmp d_Mo_goRamp_118))))) (os_n (os_n (os_l (so_ifge d_Mo_goRamp_119 (by decide))) (os_n (os_l (so_lconst d_Mo_goRamp_122 (by decide))) (os_l (so_goto d_Mo_goRamp_123 (by decide))))) (os_n (os_l (so_lconst d_Mo_goRamp_126 (by decide))) (os_n (os_l (so_lsub d_Mo_goRamp_127)) (os_l (so_lstore d_Mo_goRamp_128 (by decide))))))) (os_n (os_n (os_n (os_l (so_aload_n d_Mo_goRamp_130 rfl)) (os_n (os_l (so_get (C := R_Mo) (T := F_Mo) (N := 87) (j := 58) in_Mo rfl (by decide) mw_1852 d_Mo_goRamp_131)) (os_l (so_iload d_Mo_goRamp_134)))) (os_n (os_l (so_aload_n d_Mo_goRamp_136 rfl)) (os_n (os_l (so_get (C := R_Mo) (T := F_Mo) (N := 87) (j := 71) in_Mo rfl (by decide) mw_1865 d_Mo_goRamp_137)) (os_l (so_iload_n d_Mo_goRamp_140 rfl))))) (os_n (os_n (os_l (so_laload d_Mo_goRamp_141)) (os_n (os_l (so_lload d_Mo_goRamp_142)) (os_l (so_ladd d_Mo_goRamp_144)))) (os_n (os_l (so_lastore d_Mo_goRamp_145)) (os_n (os_l (so_iconst d_Mo_goRamp_146 (by decide))) (os_l (so_ireturn rfl d_Mo_goRamp_147)))))))))
abbrev t_Mo_limits_226 : List UInt8 := 172 :: []
abbrev t_Mo_limits_223 : List UInt8 := 182 :: 2 :: 45 :: t_Mo_limits_226
abbrev t_Mo_limits_222 : List UInt8 := 46 :: t_Mo_limits_223
abbrev t_Mo_limits_221 : List UInt8 := 27 :: t_Mo_limits_222
abbrev t_Mo_limits_218 : List UInt8 := 180 :: 0 :: 184 :: t_Mo_limits_221
abbrev t_Mo_limits_217 : List UInt8 := 42 :: t_Mo_limits_218
abbrev t_Mo_limits_216 : List UInt8 := 42 :: t_Mo_limits_217
abbrev t_Mo_limits_215 : List UInt8 := 172 :: t_Mo_limits_216
abbrev t_Mo_limits_214 : List UInt8 := 4 :: t_Mo_limits_215
abbrev t_Mo_limits_213 : List UInt8 := 84 :: t_Mo_limits_214
abbrev t_Mo_limits_212 : List UInt8 := 3 :: t_Mo_limits_213
abbrev t_Mo_limits_211 : List UInt8 := 46 :: t_Mo_limits_212
abbrev t_Mo_limits_210 : List UInt8 := 27 :: t_Mo_limits_211
abbrev t_Mo_limits_207 : List UInt8 := 180 :: 0 :: 184 :: t_Mo_limits_210
abbrev t_Mo_limits_206 : List UInt8 := 42 :: t_Mo_limits_207
abbrev t_Mo_limits_203 : List UInt8 := 180 :: 0 :: 175 :: t_Mo_limits_206
abbrev t_Mo_limits_202 : List UInt8 := 42 :: t_Mo_limits_203
abbrev t_Mo_limits_201 : List UInt8 := 79 :: t_Mo_limits_202
abbrev t_Mo_limits_200 : List UInt8 := 46 :: t_Mo_limits_201
abbrev t_Mo_limits_199 : List UInt8 := 46 :: t_Mo_limits_200
abbrev t_Mo_limits_198 : List UInt8 := 27 :: t_Mo_limits_199
abbrev t_Mo_limits_195 : List UInt8 := 180 :: 0 :: 169 :: t_Mo_limits_198
abbrev t_Mo_limits_194 : List UInt8 := 42 :: t_Mo_limits_195
abbrev t_Mo_limits_191 : List UInt8 := 180 :: 0 :: 172 :: t_Mo_limits_194
abbrev t_Mo_limits_190 : List UInt8 := 42 :: t_Mo_limits_191
abbrev t_Mo_limits_189 : List UInt8 := 27 :: t_Mo_limits_190
abbrev t_Mo_limits_186 : List UInt8 := 180 :: 0 :: 184 :: t_Mo_limits_189
abbrev t_Mo_limits_185 : List UInt8 := 42 :: t_Mo_limits_186
abbrev t_Mo_limits_182 : List UInt8 := 182 :: 1 :: 183 :: t_Mo_limits_185
abbrev t_Mo_limits_181 : List UInt8 := 6 :: t_Mo_limits_182
abbrev t_Mo_limits_180 : List UInt8 := 46 :: t_Mo_limits_181
abbrev t_Mo_limits_179 : List UInt8 := 27 :: t_Mo_limits_180
abbrev t_Mo_limits_176 : List UInt8 := 180 :: 0 :: 166 :: t_Mo_limits_179
abbrev t_Mo_limits_175 : List UInt8 := 42 :: t_Mo_limits_176
abbrev t_Mo_limits_174 : List UInt8 := 42 :: t_Mo_limits_175
abbrev t_Mo_limits_171 : List UInt8 := 154 :: 0 :: 45 :: t_Mo_limits_174
abbrev t_Mo_limits_170 : List UInt8 := 148 :: t_Mo_limits_171
abbrev t_Mo_limits_169 : List UInt8 := 9 :: t_Mo_limits_170
abbrev t_Mo_limits_168 : List UInt8 := 33 :: t_Mo_limits_169
abbrev t_Mo_limits_167 : List UInt8 := 172 :: t_Mo_limits_168
abbrev t_Mo_limits_166 : List UInt8 := 3 :: t_Mo_limits_167
abbrev t_Mo_limits_163 : List UInt8 := 153 :: 0 :: 5 :: t_Mo_limits_166
abbrev t_Mo_limits_160 : List UInt8 := 182 :: 2 :: 23 :: t_Mo_limits_163
abbrev t_Mo_limits_159 : List UInt8 := 42 :: t_Mo_limits_160
abbrev t_Mo_limits_158 : List UInt8 := 66 :: t_Mo_limits_159
abbrev t_Mo_limits_155 : List UInt8 := 182 :: 2 :: 11 :: t_Mo_limits_158
abbrev t_Mo_limits_152 : List UInt8 := 182 :: 1 :: 246 :: t_Mo_limits_155
abbrev t_Mo_limits_151 : List UInt8 := 3 :: t_Mo_limits_152
abbrev t_Mo_limits_150 : List UInt8 := 46 :: t_Mo_limits_151
abbrev t_Mo_limits_149 : List UInt8 := 27 :: t_Mo_limits_150
abbrev t_Mo_limits_146 : List UInt8 := 180 :: 0 :: 166 :: t_Mo_limits_149
abbrev t_Mo_limits_145 : List UInt8 := 42 :: t_Mo_limits_146
abbrev t_Mo_limits_142 : List UInt8 := 180 :: 0 :: 16 :: t_Mo_limits_145
abbrev t_Mo_limits_141 : List UInt8 := 42 :: t_Mo_limits_142
abbrev t_Mo_limits_140 : List UInt8 := 42 :: t_Mo_limits_141
abbrev t_Mo_limits_137 : List UInt8 := 160 :: 0 :: 79 :: t_Mo_limits_140
abbrev t_Mo_limits_136 : List UInt8 := 46 :: t_Mo_limits_137
abbrev t_Mo_limits_135 : List UInt8 := 27 :: t_Mo_limits_136
abbrev t_Mo_limits_132 : List UInt8 := 180 :: 0 :: 169 :: t_Mo_limits_135
abbrev t_Mo_limits_131 : List UInt8 := 42 :: t_Mo_limits_132
abbrev t_Mo_limits_130 : List UInt8 := 46 :: t_Mo_limits_131
abbrev t_Mo_limits_129 : List UInt8 := 27 :: t_Mo_limits_130
abbrev t_Mo_limits_126 : List UInt8 := 180 :: 0 :: 184 :: t_Mo_limits_129
abbrev t_Mo_limits_125 : List UInt8 := 42 :: t_Mo_limits_126
abbrev t_Mo_limits_122 : List UInt8 := 160 :: 0 :: 94 :: t_Mo_limits_125
abbrev t_Mo_limits_120 : List UInt8 := 16 :: 17 :: t_Mo_limits_122
abbrev t_Mo_limits_119 : List UInt8 := 28 :: t_Mo_limits_120
abbrev t_Mo_limits_118 : List UInt8 := 172 :: t_Mo_limits_119
abbrev t_Mo_limits_117 : List UInt8 := 4 :: t_Mo_limits_118
abbrev t_Mo_limits_114 : List UInt8 := 160 :: 0 :: 5 :: t_Mo_limits_117
abbrev t_Mo_limits_113 : List UInt8 := 2 :: t_Mo_limits_114
abbrev t_Mo_limits_112 : List UInt8 := 46 :: t_Mo_limits_113
abbrev t_Mo_limits_111 : List UInt8 := 27 :: t_Mo_limits_112
abbrev t_Mo_limits_108 : List UInt8 := 180 :: 0 :: 184 :: t_Mo_limits_111
abbrev t_Mo_limits_107 : List UInt8 := 42 :: t_Mo_limits_108
abbrev t_Mo_limits_104 : List UInt8 := 160 :: 0 :: 13 :: t_Mo_limits_107
abbrev t_Mo_limits_102 : List UInt8 := 16 :: 17 :: t_Mo_limits_104
abbrev t_Mo_limits_101 : List UInt8 := 28 :: t_Mo_limits_102
abbrev t_Mo_limits_98 : List UInt8 := 159 :: 0 :: 9 :: t_Mo_limits_101
abbrev t_Mo_limits_96 : List UInt8 := 16 :: 19 :: t_Mo_limits_98
abbrev t_Mo_limits_95 : List UInt8 := 28 :: t_Mo_limits_96
abbrev t_Mo_limits_92 : List UInt8 := 159 :: 0 :: 15 :: t_Mo_limits_95
abbrev t_Mo_limits_90 : List UInt8 := 16 :: 15 :: t_Mo_limits_92
abbrev t_Mo_limits_89 : List UInt8 := 28 :: t_Mo_limits_90
abbrev t_Mo_limits_86 : List UInt8 := 159 :: 0 :: 21 :: t_Mo_limits_89
abbrev t_Mo_limits_84 : List UInt8 := 16 :: 23 :: t_Mo_limits_86
abbrev t_Mo_limits_83 : List UInt8 := 28 :: t_Mo_limits_84
abbrev t_Mo_limits_82 : List UInt8 := 172 :: t_Mo_limits_83
abbrev t_Mo_limits_79 : List UInt8 := 182 :: 2 :: 45 :: t_Mo_limits_82
abbrev t_Mo_limits_78 : List UInt8 := 46 :: t_Mo_limits_79
abbrev t_Mo_limits_77 : List UInt8 := 27 :: t_Mo_limits_78
abbrev t_Mo_limits_74 : List UInt8 := 180 :: 0 :: 169 :: t_Mo_limits_77
abbrev t_Mo_limits_73 : List UInt8 := 42 :: t_Mo_limits_74
abbrev t_Mo_limits_72 : List UInt8 := 42 :: t_Mo_limits_73
abbrev t_Mo_limits_69 : List UInt8 := 160 :: 0 :: 14 :: t_Mo_limits_72
abbrev t_Mo_limits_67 : List UInt8 := 16 :: 16 :: t_Mo_limits_69
abbrev t_Mo_limits_66 : List UInt8 := 28 :: t_Mo_limits_67
abbrev t_Mo_limits_65 : List UInt8 := 172 :: t_Mo_limits_66
abbrev t_Mo_limits_64 : List UInt8 := 4 :: t_Mo_limits_65
abbrev t_Mo_limits_61 : List UInt8 := 167 :: 255 :: 225 :: t_Mo_limits_64
abbrev t_Mo_limits_60 : List UInt8 := 62 :: t_Mo_limits_61
abbrev t_Mo_limits_59 : List UInt8 := 46 :: t_Mo_limits_60
abbrev t_Mo_limits_58 : List UInt8 := 29 :: t_Mo_limits_59
abbrev t_Mo_limits_55 : List UInt8 := 180 :: 0 :: 172 :: t_Mo_limits_58
abbrev t_Mo_limits_54 : List UInt8 := 42 :: t_Mo_limits_55
abbrev t_Mo_limits_53 : List UInt8 := 172 :: t_Mo_limits_54
abbrev t_Mo_limits_52 : List UInt8 := 3 :: t_Mo_limits_53
abbrev t_Mo_limits_49 : List UInt8 := 154 :: 0 :: 5 :: t_Mo_limits_52
abbrev t_Mo_limits_46 : List UInt8 := 182 :: 2 :: 45 :: t_Mo_limits_49
abbrev t_Mo_limits_45 : List UInt8 := 29 :: t_Mo_limits_46
abbrev t_Mo_limits_44 : List UInt8 := 42 :: t_Mo_limits_45
abbrev t_Mo_limits_41 : List UInt8 := 154 :: 0 :: 13 :: t_Mo_limits_44
abbrev t_Mo_limits_40 : List UInt8 := 51 :: t_Mo_limits_41
abbrev t_Mo_limits_39 : List UInt8 := 29 :: t_Mo_limits_40
abbrev t_Mo_limits_36 : List UInt8 := 180 :: 0 :: 181 :: t_Mo_limits_39
abbrev t_Mo_limits_35 : List UInt8 := 42 :: t_Mo_limits_36
abbrev t_Mo_limits_32 : List UInt8 := 159 :: 0 :: 32 :: t_Mo_limits_35
abbrev t_Mo_limits_31 : List UInt8 := 2 :: t_Mo_limits_32
abbrev t_Mo_limits_30 : List UInt8 := 29 :: t_Mo_limits_31
abbrev t_Mo_limits_29 : List UInt8 := 62 :: t_Mo_limits_30
abbrev t_Mo_limits_28 : List UInt8 := 46 :: t_Mo_limits_29
abbrev t_Mo_limits_27 : List UInt8 := 27 :: t_Mo_limits_28
abbrev t_Mo_limits_24 : List UInt8 := 180 :: 0 :: 169 :: t_Mo_limits_27
abbrev t_Mo_limits_23 : List UInt8 := 42 :: t_Mo_limits_24
abbrev t_Mo_limits_20 : List UInt8 := 160 :: 0 :: 46 :: t_Mo_limits_23
abbrev t_Mo_limits_18 : List UInt8 := 16 :: 14 :: t_Mo_limits_20
abbrev t_Mo_limits_17 : List UInt8 := 28 :: t_Mo_limits_18
abbrev t_Mo_limits_16 : List UInt8 := 61 :: t_Mo_limits_17
abbrev t_Mo_limits_13 : List UInt8 := 182 :: 2 :: 14 :: t_Mo_limits_16
abbrev t_Mo_limits_12 : List UInt8 := 27 :: t_Mo_limits_13
abbrev t_Mo_limits_11 : List UInt8 := 42 :: t_Mo_limits_12
abbrev t_Mo_limits_10 : List UInt8 := 172 :: t_Mo_limits_11
abbrev t_Mo_limits_9 : List UInt8 := 4 :: t_Mo_limits_10
abbrev t_Mo_limits_6 : List UInt8 := 154 :: 0 :: 5 :: t_Mo_limits_9
abbrev t_Mo_limits_5 : List UInt8 := 51 :: t_Mo_limits_6
abbrev t_Mo_limits_4 : List UInt8 := 27 :: t_Mo_limits_5
abbrev t_Mo_limits_1 : List UInt8 := 180 :: 0 :: 175 :: t_Mo_limits_4
abbrev t_Mo_limits_0 : List UInt8 := 42 :: t_Mo_limits_1
theorem a_Mo_limits_0 : dk_at b_Mo_limits 0 t_Mo_limits_0 := dk_start (by decide +kernel)
theorem a_Mo_limits_1 : dk_at b_Mo_limits 1 t_Mo_limits_1 := dk_go 1 a_Mo_limits_0 rfl
theorem a_Mo_limits_4 : dk_at b_Mo_limits 4 t_Mo_limits_4 := dk_go 3 a_Mo_limits_1 rfl
theorem a_Mo_limits_5 : dk_at b_Mo_limits 5 t_Mo_limits_5 := dk_go 1 a_Mo_limits_4 rfl
theorem a_Mo_limits_6 : dk_at b_Mo_limits 6 t_Mo_limits_6 := dk_go 1 a_Mo_limits_5 rfl
theorem a_Mo_limits_9 : dk_at b_Mo_limits 9 t_Mo_limits_9 := dk_go 3 a_Mo_limits_6 rfl
theorem a_Mo_limits_10 : dk_at b_Mo_limits 10 t_Mo_limits_10 := dk_go 1 a_Mo_limits_9 rfl
theorem a_Mo_limits_11 : dk_at b_Mo_limits 11 t_Mo_limits_11 := dk_go 1 a_Mo_limits_10 rfl
theorem a_Mo_limits_12 : dk_at b_Mo_limits 12 t_Mo_limits_12 := dk_go 1 a_Mo_limits_11 rfl
theorem a_Mo_limits_13 : dk_at b_Mo_limits 13 t_Mo_limits_13 := dk_go 1 a_Mo_limits_12 rfl
theorem a_Mo_limits_16 : dk_at b_Mo_limits 16 t_Mo_limits_16 := dk_go 3 a_Mo_limits_13 rfl
theorem a_Mo_limits_17 : dk_at b_Mo_limits 17 t_Mo_limits_17 := dk_go 1 a_Mo_limits_16 rfl
theorem a_Mo_limits_18 : dk_at b_Mo_limits 18 t_Mo_limits_18 := dk_go 1 a_Mo_limits_17 rfl
theorem a_Mo_limits_20 : dk_at b_Mo_limits 20 t_Mo_limits_20 := dk_go 2 a_Mo_limits_18 rfl
theorem a_Mo_limits_23 : dk_at b_Mo_limits 23 t_Mo_limits_23 := dk_go 3 a_Mo_limits_20 rfl
theorem a_Mo_limits_24 : dk_at b_Mo_limits 24 t_Mo_limits_24 := dk_go 1 a_Mo_limits_23 rfl
theorem a_Mo_limits_27 : dk_at b_Mo_limits 27 t_Mo_limits_27 := dk_go 3 a_Mo_limits_24 rfl
theorem a_Mo_limits_28 : dk_at b_Mo_limits 28 t_Mo_limits_28 := dk_go 1 a_Mo_limits_27 rfl
theorem a_Mo_limits_29 : dk_at b_Mo_limits 29 t_Mo_limits_29 := dk_go 1 a_Mo_limits_28 rfl
theorem a_Mo_limits_30 : dk_at b_Mo_limits 30 t_Mo_limits_30 := dk_go 1 a_Mo_limits_29 rfl
theorem a_Mo_limits_31 : dk_at b_Mo_limits 31 t_Mo_limits_31 := dk_go 1 a_Mo_limits_30 rfl
theorem a_Mo_limits_32 : dk_at b_Mo_limits 32 t_Mo_limits_32 := dk_go 1 a_Mo_limits_31 rfl
theorem a_Mo_limits_35 : dk_at b_Mo_limits 35 t_Mo_limits_35 := dk_go 3 a_Mo_limits_32 rfl
theorem a_Mo_limits_36 : dk_at b_Mo_limits 36 t_Mo_limits_36 := dk_go 1 a_Mo_limits_35 rfl
theorem a_Mo_limits_39 : dk_at b_Mo_limits 39 t_Mo_limits_39 := dk_go 3 a_Mo_limits_36 rfl
theorem a_Mo_limits_40 : dk_at b_Mo_limits 40 t_Mo_limits_40 := dk_go 1 a_Mo_limits_39 rfl
theorem a_Mo_limits_41 : dk_at b_Mo_limits 41 t_Mo_limits_41 := dk_go 1 a_Mo_limits_40 rfl
theorem a_Mo_limits_44 : dk_at b_Mo_limits 44 t_Mo_limits_44 := dk_go 3 a_Mo_limits_41 rfl
theorem a_Mo_limits_45 : dk_at b_Mo_limits 45 t_Mo_limits_45 := dk_go 1 a_Mo_limits_44 rfl
theorem a_Mo_limits_46 : dk_at b_Mo_limits 46 t_Mo_limits_46 := dk_go 1 a_Mo_limits_45 rfl
theorem a_Mo_limits_49 : dk_at b_Mo_limits 49 t_Mo_limits_49 := dk_go 3 a_Mo_limits_46 rfl
theorem a_Mo_limits_52 : dk_at b_Mo_limits 52 t_Mo_limits_52 := dk_go 3 a_Mo_limits_49 rfl
theorem a_Mo_limits_53 : dk_at b_Mo_limits 53 t_Mo_limits_53 := dk_go 1 a_Mo_limits_52 rfl
theorem a_Mo_limits_54 : dk_at b_Mo_limits 54 t_Mo_limits_54 := dk_go 1 a_Mo_limits_53 rfl
theorem a_Mo_limits_55 : dk_at b_Mo_limits 55 t_Mo_limits_55 := dk_go 1 a_Mo_limits_54 rfl
theorem a_Mo_limits_58 : dk_at b_Mo_limits 58 t_Mo_limits_58 := dk_go 3 a_Mo_limits_55 rfl
theorem a_Mo_limits_59 : dk_at b_Mo_limits 59 t_Mo_limits_59 := dk_go 1 a_Mo_limits_58 rfl
theorem a_Mo_limits_60 : dk_at b_Mo_limits 60 t_Mo_limits_60 := dk_go 1 a_Mo_limits_59 rfl
theorem a_Mo_limits_61 : dk_at b_Mo_limits 61 t_Mo_limits_61 := dk_go 1 a_Mo_limits_60 rfl
theorem a_Mo_limits_64 : dk_at b_Mo_limits 64 t_Mo_limits_64 := dk_go 3 a_Mo_limits_61 rfl
theorem a_Mo_limits_65 : dk_at b_Mo_limits 65 t_Mo_limits_65 := dk_go 1 a_Mo_limits_64 rfl
theorem a_Mo_limits_66 : dk_at b_Mo_limits 66 t_Mo_limits_66 := dk_go 1 a_Mo_limits_65 rfl
theorem a_Mo_limits_67 : dk_at b_Mo_limits 67 t_Mo_limits_67 := dk_go 1 a_Mo_limits_66 rfl
theorem a_Mo_limits_69 : dk_at b_Mo_limits 69 t_Mo_limits_69 := dk_go 2 a_Mo_limits_67 rfl
theorem a_Mo_limits_72 : dk_at b_Mo_limits 72 t_Mo_limits_72 := dk_go 3 a_Mo_limits_69 rfl
theorem a_Mo_limits_73 : dk_at b_Mo_limits 73 t_Mo_limits_73 := dk_go 1 a_Mo_limits_72 rfl
theorem a_Mo_limits_74 : dk_at b_Mo_limits 74 t_Mo_limits_74 := dk_go 1 a_Mo_limits_73 rfl
theorem a_Mo_limits_77 : dk_at b_Mo_limits 77 t_Mo_limits_77 := dk_go 3 a_Mo_limits_74 rfl
theorem a_Mo_limits_78 : dk_at b_Mo_limits 78 t_Mo_limits_78 := dk_go 1 a_Mo_limits_77 rfl
theorem a_Mo_limits_79 : dk_at b_Mo_limits 79 t_Mo_limits_79 := dk_go 1 a_Mo_limits_78 rfl
theorem a_Mo_limits_82 : dk_at b_Mo_limits 82 t_Mo_limits_82 := dk_go 3 a_Mo_limits_79 rfl
theorem a_Mo_limits_83 : dk_at b_Mo_limits 83 t_Mo_limits_83 := dk_go 1 a_Mo_limits_82 rfl
theorem a_Mo_limits_84 : dk_at b_Mo_limits 84 t_Mo_limits_84 := dk_go 1 a_Mo_limits_83 rfl
theorem a_Mo_limits_86 : dk_at b_Mo_limits 86 t_Mo_limits_86 := dk_go 2 a_Mo_limits_84 rfl
theorem a_Mo_limits_89 : dk_at b_Mo_limits 89 t_Mo_limits_89 := dk_go 3 a_Mo_limits_86 rfl
theorem a_Mo_limits_90 : dk_at b_Mo_limits 90 t_Mo_limits_90 := dk_go 1 a_Mo_limits_89 rfl
theorem a_Mo_limits_92 : dk_at b_Mo_limits 92 t_Mo_limits_92 := dk_go 2 a_Mo_limits_90 rfl
theorem a_Mo_limits_95 : dk_at b_Mo_limits 95 t_Mo_limits_95 := dk_go 3 a_Mo_limits_92 rfl
theorem a_Mo_limits_96 : dk_at b_Mo_limits 96 t_Mo_limits_96 := dk_go 1 a_Mo_limits_95 rfl
theorem a_Mo_limits_98 : dk_at b_Mo_limits 98 t_Mo_limits_98 := dk_go 2 a_Mo_limits_96 rfl
theorem a_Mo_limits_101 : dk_at b_Mo_limits 101 t_Mo_limits_101 := dk_go 3 a_Mo_limits_98 rfl
theorem a_Mo_limits_102 : dk_at b_Mo_limits 102 t_Mo_limits_102 := dk_go 1 a_Mo_limits_101 rfl
theorem a_Mo_limits_104 : dk_at b_Mo_limits 104 t_Mo_limits_104 := dk_go 2 a_Mo_limits_102 rfl
theorem a_Mo_limits_107 : dk_at b_Mo_limits 107 t_Mo_limits_107 := dk_go 3 a_Mo_limits_104 rfl
theorem a_Mo_limits_108 : dk_at b_Mo_limits 108 t_Mo_limits_108 := dk_go 1 a_Mo_limits_107 rfl
theorem a_Mo_limits_111 : dk_at b_Mo_limits 111 t_Mo_limits_111 := dk_go 3 a_Mo_limits_108 rfl
theorem a_Mo_limits_112 : dk_at b_Mo_limits 112 t_Mo_limits_112 := dk_go 1 a_Mo_limits_111 rfl
theorem a_Mo_limits_113 : dk_at b_Mo_limits 113 t_Mo_limits_113 := dk_go 1 a_Mo_limits_112 rfl
theorem a_Mo_limits_114 : dk_at b_Mo_limits 114 t_Mo_limits_114 := dk_go 1 a_Mo_limits_113 rfl
theorem a_Mo_limits_117 : dk_at b_Mo_limits 117 t_Mo_limits_117 := dk_go 3 a_Mo_limits_114 rfl
theorem a_Mo_limits_118 : dk_at b_Mo_limits 118 t_Mo_limits_118 := dk_go 1 a_Mo_limits_117 rfl
theorem a_Mo_limits_119 : dk_at b_Mo_limits 119 t_Mo_limits_119 := dk_go 1 a_Mo_limits_118 rfl
theorem a_Mo_limits_120 : dk_at b_Mo_limits 120 t_Mo_limits_120 := dk_go 1 a_Mo_limits_119 rfl
theorem a_Mo_limits_122 : dk_at b_Mo_limits 122 t_Mo_limits_122 := dk_go 2 a_Mo_limits_120 rfl
theorem a_Mo_limits_125 : dk_at b_Mo_limits 125 t_Mo_limits_125 := dk_go 3 a_Mo_limits_122 rfl
theorem a_Mo_limits_126 : dk_at b_Mo_limits 126 t_Mo_limits_126 := dk_go 1 a_Mo_limits_125 rfl
theorem a_Mo_limits_129 : dk_at b_Mo_limits 129 t_Mo_limits_129 := dk_go 3 a_Mo_limits_126 rfl
theorem a_Mo_limits_130 : dk_at b_Mo_limits 130 t_Mo_limits_130 := dk_go 1 a_Mo_limits_129 rfl
theorem a_Mo_limits_131 : dk_at b_Mo_limits 131 t_Mo_limits_131 := dk_go 1 a_Mo_limits_130 rfl
theorem a_Mo_limits_132 : dk_at b_Mo_limits 132 t_Mo_limits_132 := dk_go 1 a_Mo_limits_131 rfl
theorem a_Mo_limits_135 : dk_at b_Mo_limits 135 t_Mo_limits_135 := dk_go 3 a_Mo_limits_132 rfl
theorem a_Mo_limits_136 : dk_at b_Mo_limits 136 t_Mo_limits_136 := dk_go 1 a_Mo_limits_135 rfl
theorem a_Mo_limits_137 : dk_at b_Mo_limits 137 t_Mo_limits_137 := dk_go 1 a_Mo_limits_136 rfl
theorem a_Mo_limits_140 : dk_at b_Mo_limits 140 t_Mo_limits_140 := dk_go 3 a_Mo_limits_137 rfl
theorem a_Mo_limits_141 : dk_at b_Mo_limits 141 t_Mo_limits_141 := dk_go 1 a_Mo_limits_140 rfl
theorem a_Mo_limits_142 : dk_at b_Mo_limits 142 t_Mo_limits_142 := dk_go 1 a_Mo_limits_141 rfl
theorem a_Mo_limits_145 : dk_at b_Mo_limits 145 t_Mo_limits_145 := dk_go 3 a_Mo_limits_142 rfl
theorem a_Mo_limits_146 : dk_at b_Mo_limits 146 t_Mo_limits_146 := dk_go 1 a_Mo_limits_145 rfl
theorem a_Mo_limits_149 : dk_at b_Mo_limits 149 t_Mo_limits_149 := dk_go 3 a_Mo_limits_146 rfl
theorem a_Mo_limits_150 : dk_at b_Mo_limits 150 t_Mo_limits_150 := dk_go 1 a_Mo_limits_149 rfl
theorem a_Mo_limits_151 : dk_at b_Mo_limits 151 t_Mo_limits_151 := dk_go 1 a_Mo_limits_150 rfl
theorem a_Mo_limits_152 : dk_at b_Mo_limits 152 t_Mo_limits_152 := dk_go 1 a_Mo_limits_151 rfl
theorem a_Mo_limits_155 : dk_at b_Mo_limits 155 t_Mo_limits_155 := dk_go 3 a_Mo_limits_152 rfl
theorem a_Mo_limits_158 : dk_at b_Mo_limits 158 t_Mo_limits_158 := dk_go 3 a_Mo_limits_155 rfl
theorem a_Mo_limits_159 : dk_at b_Mo_limits 159 t_Mo_limits_159 := dk_go 1 a_Mo_limits_158 rfl
theorem a_Mo_limits_160 : dk_at b_Mo_limits 160 t_Mo_limits_160 := dk_go 1 a_Mo_limits_159 rfl
theorem a_Mo_limits_163 : dk_at b_Mo_limits 163 t_Mo_limits_163 := dk_go 3 a_Mo_limits_160 rfl
theorem a_Mo_limits_166 : dk_at b_Mo_limits 166 t_Mo_limits_166 := dk_go 3 a_Mo_limits_163 rfl
theorem a_Mo_limits_167 : dk_at b_Mo_limits 167 t_Mo_limits_167 := dk_go 1 a_Mo_limits_166 rfl
theorem a_Mo_limits_168 : dk_at b_Mo_limits 168 t_Mo_limits_168 := dk_go 1 a_Mo_limits_167 rfl
theorem a_Mo_limits_169 : dk_at b_Mo_limits 169 t_Mo_limits_169 := dk_go 1 a_Mo_limits_168 rfl
theorem a_Mo_limits_170 : dk_at b_Mo_limits 170 t_Mo_limits_170 := dk_go 1 a_Mo_limits_169 rfl
theorem a_Mo_limits_171 : dk_at b_Mo_limits 171 t_Mo_limits_171 := dk_go 1 a_Mo_limits_170 rfl
theorem a_Mo_limits_174 : dk_at b_Mo_limits 174 t_Mo_limits_174 := dk_go 3 a_Mo_limits_171 rfl
theorem a_Mo_limits_175 : dk_at b_Mo_limits 175 t_Mo_limits_175 := dk_go 1 a_Mo_limits_174 rfl
theorem a_Mo_limits_176 : dk_at b_Mo_limits 176 t_Mo_limits_176 := dk_go 1 a_Mo_limits_175 rfl
theorem a_Mo_limits_179 : dk_at b_Mo_limits 179 t_Mo_limits_179 := dk_go 3 a_Mo_limits_176 rfl
theorem a_Mo_limits_180 : dk_at b_Mo_limits 180 t_Mo_limits_180 := dk_go 1 a_Mo_limits_179 rfl
theorem a_Mo_limits_181 : dk_at b_Mo_limits 181 t_Mo_limits_181 := dk_go 1 a_Mo_limits_180 rfl
theorem a_Mo_limits_182 : dk_at b_Mo_limits 182 t_Mo_limits_182 := dk_go 1 a_Mo_limits_181 rfl
theorem a_Mo_limits_185 : dk_at b_Mo_limits 185 t_Mo_limits_185 := dk_go 3 a_Mo_limits_182 rfl
theorem a_Mo_limits_186 : dk_at b_Mo_limits 186 t_Mo_limits_186 := dk_go 1 a_Mo_limits_185 rfl
theorem a_Mo_limits_189 : dk_at b_Mo_limits 189 t_Mo_limits_189 := dk_go 3 a_Mo_limits_186 rfl
theorem a_Mo_limits_190 : dk_at b_Mo_limits 190 t_Mo_limits_190 := dk_go 1 a_Mo_limits_189 rfl
theorem a_Mo_limits_191 : dk_at b_Mo_limits 191 t_Mo_limits_191 := dk_go 1 a_Mo_limits_190 rfl
theorem a_Mo_limits_194 : dk_at b_Mo_limits 194 t_Mo_limits_194 := dk_go 3 a_Mo_limits_191 rfl
theorem a_Mo_limits_195 : dk_at b_Mo_limits 195 t_Mo_limits_195 := dk_go 1 a_Mo_limits_194 rfl
theorem a_Mo_limits_198 : dk_at b_Mo_limits 198 t_Mo_limits_198 := dk_go 3 a_Mo_limits_195 rfl
theorem a_Mo_limits_199 : dk_at b_Mo_limits 199 t_Mo_limits_199 := dk_go 1 a_Mo_limits_198 rfl
theorem a_Mo_limits_200 : dk_at b_Mo_limits 200 t_Mo_limits_200 := dk_go 1 a_Mo_limits_199 rfl
theorem a_Mo_limits_201 : dk_at b_Mo_limits 201 t_Mo_limits_201 := dk_go 1 a_Mo_limits_200 rfl
theorem a_Mo_limits_202 : dk_at b_Mo_limits 202 t_Mo_limits_202 := dk_go 1 a_Mo_limits_201 rfl
theorem a_Mo_limits_203 : dk_at b_Mo_limits 203 t_Mo_limits_203 := dk_go 1 a_Mo_limits_202 rfl
theorem a_Mo_limits_206 : dk_at b_Mo_limits 206 t_Mo_limits_206 := dk_go 3 a_Mo_limits_203 rfl
theorem a_Mo_limits_207 : dk_at b_Mo_limits 207 t_Mo_limits_207 := dk_go 1 a_Mo_limits_206 rfl
theorem a_Mo_limits_210 : dk_at b_Mo_limits 210 t_Mo_limits_210 := dk_go 3 a_Mo_limits_207 rfl
theorem a_Mo_limits_211 : dk_at b_Mo_limits 211 t_Mo_limits_211 := dk_go 1 a_Mo_limits_210 rfl
theorem a_Mo_limits_212 : dk_at b_Mo_limits 212 t_Mo_limits_212 := dk_go 1 a_Mo_limits_211 rfl
theorem a_Mo_limits_213 : dk_at b_Mo_limits 213 t_Mo_limits_213 := dk_go 1 a_Mo_limits_212 rfl
theorem a_Mo_limits_214 : dk_at b_Mo_limits 214 t_Mo_limits_214 := dk_go 1 a_Mo_limits_213 rfl
theorem a_Mo_limits_215 : dk_at b_Mo_limits 215 t_Mo_limits_215 := dk_go 1 a_Mo_limits_214 rfl
theorem a_Mo_limits_216 : dk_at b_Mo_limits 216 t_Mo_limits_216 := dk_go 1 a_Mo_limits_215 rfl
theorem a_Mo_limits_217 : dk_at b_Mo_limits 217 t_Mo_limits_217 := dk_go 1 a_Mo_limits_216 rfl
theorem a_Mo_limits_218 : dk_at b_Mo_limits 218 t_Mo_limits_218 := dk_go 1 a_Mo_limits_217 rfl
theorem a_Mo_limits_221 : dk_at b_Mo_limits 221 t_Mo_limits_221 := dk_go 3 a_Mo_limits_218 rfl
theorem a_Mo_limits_222 : dk_at b_Mo_limits 222 t_Mo_limits_222 := dk_go 1 a_Mo_limits_221 rfl
theorem a_Mo_limits_223 : dk_at b_Mo_limits 223 t_Mo_limits_223 := dk_go 1 a_Mo_limits_222 rfl
theorem a_Mo_limits_226 : dk_at b_Mo_limits 226 t_Mo_limits_226 := dk_go 3 a_Mo_limits_223 rfl
theorem d_Mo_limits_0 : decode b_Mo_limits 0 = .ok (.aload_n 0, 1) := dk_0 a_Mo_limits_0 (dko_42 _)
theorem d_Mo_limits_1 : decode b_Mo_limits 1 = .ok (.getfield 175, 3) := dk_U2 a_Mo_limits_1 (dko_180 _) rfl
theorem d_Mo_limits_4 : decode b_Mo_limits 4 = .ok (.iload_n 1, 1) := dk_0 a_Mo_limits_4 (dko_27 _)
theorem d_Mo_limits_5 : decode b_Mo_limits 5 = .ok (.baload, 1) := dk_0 a_Mo_limits_5 (dko_51 _)
theorem d_Mo_limits_6 : decode b_Mo_limits 6 = .ok (.ifCond .ne 5, 3) := dk_S2 a_Mo_limits_6 (dko_154 _) (by decide +kernel)
theorem d_Mo_limits_9 : decode b_Mo_limits 9 = .ok (.iconst 1, 1) := dk_0 a_Mo_limits_9 (dko_4 _)
theorem d_Mo_limits_10 : decode b_Mo_limits 10 = .ok (.ireturn, 1) := dk_0 a_Mo_limits_10 (dko_172 _)
theorem d_Mo_limits_11 : decode b_Mo_limits 11 = .ok (.aload_n 0, 1) := dk_0 a_Mo_limits_11 (dko_42 _)
theorem d_Mo_limits_12 : decode b_Mo_limits 12 = .ok (.iload_n 1, 1) := dk_0 a_Mo_limits_12 (dko_27 _)
theorem d_Mo_limits_13 : decode b_Mo_limits 13 = .ok (.invokevirtual 526, 3) := dk_U2 a_Mo_limits_13 (dko_182 _) rfl
theorem d_Mo_limits_16 : decode b_Mo_limits 16 = .ok (.istore_n 2, 1) := dk_0 a_Mo_limits_16 (dko_61 _)
theorem d_Mo_limits_17 : decode b_Mo_limits 17 = .ok (.iload_n 2, 1) := dk_0 a_Mo_limits_17 (dko_28 _)
theorem d_Mo_limits_18 : decode b_Mo_limits 18 = .ok (.bipush 14, 2) := dk_S1 a_Mo_limits_18 (dko_16 _) (by decide +kernel)
theorem d_Mo_limits_20 : decode b_Mo_limits 20 = .ok (.if_icmp .ne 46, 3) := dk_S2 a_Mo_limits_20 (dko_160 _) (by decide +kernel)
theorem d_Mo_limits_23 : decode b_Mo_limits 23 = .ok (.aload_n 0, 1) := dk_0 a_Mo_limits_23 (dko_42 _)
theorem d_Mo_limits_24 : decode b_Mo_limits 24 = .ok (.getfield 169, 3) := dk_U2 a_Mo_limits_24 (dko_180 _) rfl
theorem d_Mo_limits_27 : decode b_Mo_limits 27 = .ok (.iload_n 1, 1) := dk_0 a_Mo_limits_27 (dko_27 _)
theorem d_Mo_limits_28 : decode b_Mo_limits 28 = .ok (.iaload, 1) := dk_0 a_Mo_limits_28 (dko_46 _)
theorem d_Mo_limits_29 : decode b_Mo_limits 29 = .ok (.istore_n 3, 1) := dk_0 a_Mo_limits_29 (dko_62 _)
theorem d_Mo_limits_30 : decode b_Mo_limits 30 = .ok (.iload_n 3, 1) := dk_0 a_Mo_limits_30 (dko_29 _)
theorem d_Mo_limits_31 : decode b_Mo_limits 31 = .ok (.iconst (-1), 1) := dk_0 a_Mo_limits_31 (dko_2 _)
theorem d_Mo_limits_32 : decode b_Mo_limits 32 = .ok (.if_icmp .eq 32, 3) := dk_S2 a_Mo_limits_32 (dko_159 _) (by decide +kernel)
theorem d_Mo_limits_35 : decode b_Mo_limits 35 = .ok (.aload_n 0, 1) := dk_0 a_Mo_limits_35 (dko_42 _)
theorem d_Mo_limits_36 : decode b_Mo_limits 36 = .ok (.getfield 181, 3) := dk_U2 a_Mo_limits_36 (dko_180 _) rfl
theorem d_Mo_limits_39 : decode b_Mo_limits 39 = .ok (.iload_n 3, 1) := dk_0 a_Mo_limits_39 (dko_29 _)
theorem d_Mo_limits_40 : decode b_Mo_limits 40 = .ok (.baload, 1) := dk_0 a_Mo_limits_40 (dko_51 _)
theorem d_Mo_limits_41 : decode b_Mo_limits 41 = .ok (.ifCond .ne 13, 3) := dk_S2 a_Mo_limits_41 (dko_154 _) (by decide +kernel)
theorem d_Mo_limits_44 : decode b_Mo_limits 44 = .ok (.aload_n 0, 1) := dk_0 a_Mo_limits_44 (dko_42 _)
theorem d_Mo_limits_45 : decode b_Mo_limits 45 = .ok (.iload_n 3, 1) := dk_0 a_Mo_limits_45 (dko_29 _)
theorem d_Mo_limits_46 : decode b_Mo_limits 46 = .ok (.invokevirtual 557, 3) := dk_U2 a_Mo_limits_46 (dko_182 _) rfl
theorem d_Mo_limits_49 : decode b_Mo_limits 49 = .ok (.ifCond .ne 5, 3) := dk_S2 a_Mo_limits_49 (dko_154 _) (by decide +kernel)
theorem d_Mo_limits_52 : decode b_Mo_limits 52 = .ok (.iconst 0, 1) := dk_0 a_Mo_limits_52 (dko_3 _)
theorem d_Mo_limits_53 : decode b_Mo_limits 53 = .ok (.ireturn, 1) := dk_0 a_Mo_limits_53 (dko_172 _)
theorem d_Mo_limits_54 : decode b_Mo_limits 54 = .ok (.aload_n 0, 1) := dk_0 a_Mo_limits_54 (dko_42 _)
theorem d_Mo_limits_55 : decode b_Mo_limits 55 = .ok (.getfield 172, 3) := dk_U2 a_Mo_limits_55 (dko_180 _) rfl
theorem d_Mo_limits_58 : decode b_Mo_limits 58 = .ok (.iload_n 3, 1) := dk_0 a_Mo_limits_58 (dko_29 _)
theorem d_Mo_limits_59 : decode b_Mo_limits 59 = .ok (.iaload, 1) := dk_0 a_Mo_limits_59 (dko_46 _)
theorem d_Mo_limits_60 : decode b_Mo_limits 60 = .ok (.istore_n 3, 1) := dk_0 a_Mo_limits_60 (dko_62 _)
theorem d_Mo_limits_61 : decode b_Mo_limits 61 = .ok (.goto (-31), 3) := dk_S2 a_Mo_limits_61 (dko_167 _) (by decide +kernel)
theorem d_Mo_limits_64 : decode b_Mo_limits 64 = .ok (.iconst 1, 1) := dk_0 a_Mo_limits_64 (dko_4 _)
theorem d_Mo_limits_65 : decode b_Mo_limits 65 = .ok (.ireturn, 1) := dk_0 a_Mo_limits_65 (dko_172 _)
theorem d_Mo_limits_66 : decode b_Mo_limits 66 = .ok (.iload_n 2, 1) := dk_0 a_Mo_limits_66 (dko_28 _)
theorem d_Mo_limits_67 : decode b_Mo_limits 67 = .ok (.bipush 16, 2) := dk_S1 a_Mo_limits_67 (dko_16 _) (by decide +kernel)
theorem d_Mo_limits_69 : decode b_Mo_limits 69 = .ok (.if_icmp .ne 14, 3) := dk_S2 a_Mo_limits_69 (dko_160 _) (by decide +kernel)
theorem d_Mo_limits_72 : decode b_Mo_limits 72 = .ok (.aload_n 0, 1) := dk_0 a_Mo_limits_72 (dko_42 _)
theorem d_Mo_limits_73 : decode b_Mo_limits 73 = .ok (.aload_n 0, 1) := dk_0 a_Mo_limits_73 (dko_42 _)
theorem d_Mo_limits_74 : decode b_Mo_limits 74 = .ok (.getfield 169, 3) := dk_U2 a_Mo_limits_74 (dko_180 _) rfl
theorem d_Mo_limits_77 : decode b_Mo_limits 77 = .ok (.iload_n 1, 1) := dk_0 a_Mo_limits_77 (dko_27 _)
theorem d_Mo_limits_78 : decode b_Mo_limits 78 = .ok (.iaload, 1) := dk_0 a_Mo_limits_78 (dko_46 _)
theorem d_Mo_limits_79 : decode b_Mo_limits 79 = .ok (.invokevirtual 557, 3) := dk_U2 a_Mo_limits_79 (dko_182 _) rfl
theorem d_Mo_limits_82 : decode b_Mo_limits 82 = .ok (.ireturn, 1) := dk_0 a_Mo_limits_82 (dko_172 _)
theorem d_Mo_limits_83 : decode b_Mo_limits 83 = .ok (.iload_n 2, 1) := dk_0 a_Mo_limits_83 (dko_28 _)
theorem d_Mo_limits_84 : decode b_Mo_limits 84 = .ok (.bipush 23, 2) := dk_S1 a_Mo_limits_84 (dko_16 _) (by decide +kernel)
theorem d_Mo_limits_86 : decode b_Mo_limits 86 = .ok (.if_icmp .eq 21, 3) := dk_S2 a_Mo_limits_86 (dko_159 _) (by decide +kernel)
theorem d_Mo_limits_89 : decode b_Mo_limits 89 = .ok (.iload_n 2, 1) := dk_0 a_Mo_limits_89 (dko_28 _)
theorem d_Mo_limits_90 : decode b_Mo_limits 90 = .ok (.bipush 15, 2) := dk_S1 a_Mo_limits_90 (dko_16 _) (by decide +kernel)
theorem d_Mo_limits_92 : decode b_Mo_limits 92 = .ok (.if_icmp .eq 15, 3) := dk_S2 a_Mo_limits_92 (dko_159 _) (by decide +kernel)
theorem d_Mo_limits_95 : decode b_Mo_limits 95 = .ok (.iload_n 2, 1) := dk_0 a_Mo_limits_95 (dko_28 _)
theorem d_Mo_limits_96 : decode b_Mo_limits 96 = .ok (.bipush 19, 2) := dk_S1 a_Mo_limits_96 (dko_16 _) (by decide +kernel)
theorem d_Mo_limits_98 : decode b_Mo_limits 98 = .ok (.if_icmp .eq 9, 3) := dk_S2 a_Mo_limits_98 (dko_159 _) (by decide +kernel)
theorem d_Mo_limits_101 : decode b_Mo_limits 101 = .ok (.iload_n 2, 1) := dk_0 a_Mo_limits_101 (dko_28 _)
theorem d_Mo_limits_102 : decode b_Mo_limits 102 = .ok (.bipush 17, 2) := dk_S1 a_Mo_limits_102 (dko_16 _) (by decide +kernel)
theorem d_Mo_limits_104 : decode b_Mo_limits 104 = .ok (.if_icmp .ne 13, 3) := dk_S2 a_Mo_limits_104 (dko_160 _) (by decide +kernel)
theorem d_Mo_limits_107 : decode b_Mo_limits 107 = .ok (.aload_n 0, 1) := dk_0 a_Mo_limits_107 (dko_42 _)
theorem d_Mo_limits_108 : decode b_Mo_limits 108 = .ok (.getfield 184, 3) := dk_U2 a_Mo_limits_108 (dko_180 _) rfl
theorem d_Mo_limits_111 : decode b_Mo_limits 111 = .ok (.iload_n 1, 1) := dk_0 a_Mo_limits_111 (dko_27 _)
theorem d_Mo_limits_112 : decode b_Mo_limits 112 = .ok (.iaload, 1) := dk_0 a_Mo_limits_112 (dko_46 _)
theorem d_Mo_limits_113 : decode b_Mo_limits 113 = .ok (.iconst (-1), 1) := dk_0 a_Mo_limits_113 (dko_2 _)
theorem d_Mo_limits_114 : decode b_Mo_limits 114 = .ok (.if_icmp .ne 5, 3) := dk_S2 a_Mo_limits_114 (dko_160 _) (by decide +kernel)
theorem d_Mo_limits_117 : decode b_Mo_limits 117 = .ok (.iconst 1, 1) := dk_0 a_Mo_limits_117 (dko_4 _)
theorem d_Mo_limits_118 : decode b_Mo_limits 118 = .ok (.ireturn, 1) := dk_0 a_Mo_limits_118 (dko_172 _)
theorem d_Mo_limits_119 : decode b_Mo_limits 119 = .ok (.iload_n 2, 1) := dk_0 a_Mo_limits_119 (dko_28 _)
theorem d_Mo_limits_120 : decode b_Mo_limits 120 = .ok (.bipush 17, 2) := dk_S1 a_Mo_limits_120 (dko_16 _) (by decide +kernel)
theorem d_Mo_limits_122 : decode b_Mo_limits 122 = .ok (.if_icmp .ne 94, 3) := dk_S2 a_Mo_limits_122 (dko_160 _) (by decide +kernel)
theorem d_Mo_limits_125 : decode b_Mo_limits 125 = .ok (.aload_n 0, 1) := dk_0 a_Mo_limits_125 (dko_42 _)
theorem d_Mo_limits_126 : decode b_Mo_limits 126 = .ok (.getfield 184, 3) := dk_U2 a_Mo_limits_126 (dko_180 _) rfl
theorem d_Mo_limits_129 : decode b_Mo_limits 129 = .ok (.iload_n 1, 1) := dk_0 a_Mo_limits_129 (dko_27 _)
theorem d_Mo_limits_130 : decode b_Mo_limits 130 = .ok (.iaload, 1) := dk_0 a_Mo_limits_130 (dko_46 _)
theorem d_Mo_limits_131 : decode b_Mo_limits 131 = .ok (.aload_n 0, 1) := dk_0 a_Mo_limits_131 (dko_42 _)
theorem d_Mo_limits_132 : decode b_Mo_limits 132 = .ok (.getfield 169, 3) := dk_U2 a_Mo_limits_132 (dko_180 _) rfl
theorem d_Mo_limits_135 : decode b_Mo_limits 135 = .ok (.iload_n 1, 1) := dk_0 a_Mo_limits_135 (dko_27 _)
theorem d_Mo_limits_136 : decode b_Mo_limits 136 = .ok (.iaload, 1) := dk_0 a_Mo_limits_136 (dko_46 _)
theorem d_Mo_limits_137 : decode b_Mo_limits 137 = .ok (.if_icmp .ne 79, 3) := dk_S2 a_Mo_limits_137 (dko_160 _) (by decide +kernel)
theorem d_Mo_limits_140 : decode b_Mo_limits 140 = .ok (.aload_n 0, 1) := dk_0 a_Mo_limits_140 (dko_42 _)
theorem d_Mo_limits_141 : decode b_Mo_limits 141 = .ok (.aload_n 0, 1) := dk_0 a_Mo_limits_141 (dko_42 _)
theorem d_Mo_limits_142 : decode b_Mo_limits 142 = .ok (.getfield 16, 3) := dk_U2 a_Mo_limits_142 (dko_180 _) rfl
theorem d_Mo_limits_145 : decode b_Mo_limits 145 = .ok (.aload_n 0, 1) := dk_0 a_Mo_limits_145 (dko_42 _)
theorem d_Mo_limits_146 : decode b_Mo_limits 146 = .ok (.getfield 166, 3) := dk_U2 a_Mo_limits_146 (dko_180 _) rfl
theorem d_Mo_limits_149 : decode b_Mo_limits 149 = .ok (.iload_n 1, 1) := dk_0 a_Mo_limits_149 (dko_27 _)
theorem d_Mo_limits_150 : decode b_Mo_limits 150 = .ok (.iaload, 1) := dk_0 a_Mo_limits_150 (dko_46 _)
theorem d_Mo_limits_151 : decode b_Mo_limits 151 = .ok (.iconst 0, 1) := dk_0 a_Mo_limits_151 (dko_3 _)
theorem d_Mo_limits_152 : decode b_Mo_limits 152 = .ok (.invokevirtual 502, 3) := dk_U2 a_Mo_limits_152 (dko_182 _) rfl
theorem d_Mo_limits_155 : decode b_Mo_limits 155 = .ok (.invokevirtual 523, 3) := dk_U2 a_Mo_limits_155 (dko_182 _) rfl
theorem d_Mo_limits_158 : decode b_Mo_limits 158 = .ok (.lstore_n 3, 1) := dk_0 a_Mo_limits_158 (dko_66 _)
theorem d_Mo_limits_159 : decode b_Mo_limits 159 = .ok (.aload_n 0, 1) := dk_0 a_Mo_limits_159 (dko_42 _)
theorem d_Mo_limits_160 : decode b_Mo_limits 160 = .ok (.invokevirtual 535, 3) := dk_U2 a_Mo_limits_160 (dko_182 _) rfl
theorem d_Mo_limits_163 : decode b_Mo_limits 163 = .ok (.ifCond .eq 5, 3) := dk_S2 a_Mo_limits_163 (dko_153 _) (by decide +kernel)
theorem d_Mo_limits_166 : decode b_Mo_limits 166 = .ok (.iconst 0, 1) := dk_0 a_Mo_limits_166 (dko_3 _)
theorem d_Mo_limits_167 : decode b_Mo_limits 167 = .ok (.ireturn, 1) := dk_0 a_Mo_limits_167 (dko_172 _)
theorem d_Mo_limits_168 : decode b_Mo_limits 168 = .ok (.lload_n 3, 1) := dk_0 a_Mo_limits_168 (dko_33 _)
theorem d_Mo_limits_169 : decode b_Mo_limits 169 = .ok (.lconst 0, 1) := dk_0 a_Mo_limits_169 (dko_9 _)
theorem d_Mo_limits_170 : decode b_Mo_limits 170 = .ok (.lcmp, 1) := dk_0 a_Mo_limits_170 (dko_148 _)
theorem d_Mo_limits_171 : decode b_Mo_limits 171 = .ok (.ifCond .ne 45, 3) := dk_S2 a_Mo_limits_171 (dko_154 _) (by decide +kernel)
theorem d_Mo_limits_174 : decode b_Mo_limits 174 = .ok (.aload_n 0, 1) := dk_0 a_Mo_limits_174 (dko_42 _)
theorem d_Mo_limits_175 : decode b_Mo_limits 175 = .ok (.aload_n 0, 1) := dk_0 a_Mo_limits_175 (dko_42 _)
theorem d_Mo_limits_176 : decode b_Mo_limits 176 = .ok (.getfield 166, 3) := dk_U2 a_Mo_limits_176 (dko_180 _) rfl
theorem d_Mo_limits_179 : decode b_Mo_limits 179 = .ok (.iload_n 1, 1) := dk_0 a_Mo_limits_179 (dko_27 _)
theorem d_Mo_limits_180 : decode b_Mo_limits 180 = .ok (.iaload, 1) := dk_0 a_Mo_limits_180 (dko_46 _)
theorem d_Mo_limits_181 : decode b_Mo_limits 181 = .ok (.iconst 3, 1) := dk_0 a_Mo_limits_181 (dko_6 _)
theorem d_Mo_limits_182 : decode b_Mo_limits 182 = .ok (.invokevirtual 439, 3) := dk_U2 a_Mo_limits_182 (dko_182 _) rfl
theorem d_Mo_limits_185 : decode b_Mo_limits 185 = .ok (.aload_n 0, 1) := dk_0 a_Mo_limits_185 (dko_42 _)
theorem d_Mo_limits_186 : decode b_Mo_limits 186 = .ok (.getfield 184, 3) := dk_U2 a_Mo_limits_186 (dko_180 _) rfl
theorem d_Mo_limits_189 : decode b_Mo_limits 189 = .ok (.iload_n 1, 1) := dk_0 a_Mo_limits_189 (dko_27 _)
theorem d_Mo_limits_190 : decode b_Mo_limits 190 = .ok (.aload_n 0, 1) := dk_0 a_Mo_limits_190 (dko_42 _)
theorem d_Mo_limits_191 : decode b_Mo_limits 191 = .ok (.getfield 172, 3) := dk_U2 a_Mo_limits_191 (dko_180 _) rfl
theorem d_Mo_limits_194 : decode b_Mo_limits 194 = .ok (.aload_n 0, 1) := dk_0 a_Mo_limits_194 (dko_42 _)
theorem d_Mo_limits_195 : decode b_Mo_limits 195 = .ok (.getfield 169, 3) := dk_U2 a_Mo_limits_195 (dko_180 _) rfl
theorem d_Mo_limits_198 : decode b_Mo_limits 198 = .ok (.iload_n 1, 1) := dk_0 a_Mo_limits_198 (dko_27 _)
theorem d_Mo_limits_199 : decode b_Mo_limits 199 = .ok (.iaload, 1) := dk_0 a_Mo_limits_199 (dko_46 _)
theorem d_Mo_limits_200 : decode b_Mo_limits 200 = .ok (.iaload, 1) := dk_0 a_Mo_limits_200 (dko_46 _)
theorem d_Mo_limits_201 : decode b_Mo_limits 201 = .ok (.iastore, 1) := dk_0 a_Mo_limits_201 (dko_79 _)
theorem d_Mo_limits_202 : decode b_Mo_limits 202 = .ok (.aload_n 0, 1) := dk_0 a_Mo_limits_202 (dko_42 _)
theorem d_Mo_limits_203 : decode b_Mo_limits 203 = .ok (.getfield 175, 3) := dk_U2 a_Mo_limits_203 (dko_180 _) rfl
theorem d_Mo_limits_206 : decode b_Mo_limits 206 = .ok (.aload_n 0, 1) := dk_0 a_Mo_limits_206 (dko_42 _)
theorem d_Mo_limits_207 : decode b_Mo_limits 207 = .ok (.getfield 184, 3) := dk_U2 a_Mo_limits_207 (dko_180 _) rfl
theorem d_Mo_limits_210 : decode b_Mo_limits 210 = .ok (.iload_n 1, 1) := dk_0 a_Mo_limits_210 (dko_27 _)
theorem d_Mo_limits_211 : decode b_Mo_limits 211 = .ok (.iaload, 1) := dk_0 a_Mo_limits_211 (dko_46 _)
theorem d_Mo_limits_212 : decode b_Mo_limits 212 = .ok (.iconst 0, 1) := dk_0 a_Mo_limits_212 (dko_3 _)
theorem d_Mo_limits_213 : decode b_Mo_limits 213 = .ok (.bastore, 1) := dk_0 a_Mo_limits_213 (dko_84 _)
theorem d_Mo_limits_214 : decode b_Mo_limits 214 = .ok (.iconst 1, 1) := dk_0 a_Mo_limits_214 (dko_4 _)
theorem d_Mo_limits_215 : decode b_Mo_limits 215 = .ok (.ireturn, 1) := dk_0 a_Mo_limits_215 (dko_172 _)
theorem d_Mo_limits_216 : decode b_Mo_limits 216 = .ok (.aload_n 0, 1) := dk_0 a_Mo_limits_216 (dko_42 _)
theorem d_Mo_limits_217 : decode b_Mo_limits 217 = .ok (.aload_n 0, 1) := dk_0 a_Mo_limits_217 (dko_42 _)
theorem d_Mo_limits_218 : decode b_Mo_limits 218 = .ok (.getfield 184, 3) := dk_U2 a_Mo_limits_218 (dko_180 _) rfl
theorem d_Mo_limits_221 : decode b_Mo_limits 221 = .ok (.iload_n 1, 1) := dk_0 a_Mo_limits_221 (dko_27 _)
theorem d_Mo_limits_222 : decode b_Mo_limits 222 = .ok (.iaload, 1) := dk_0 a_Mo_limits_222 (dko_46 _)
theorem d_Mo_limits_223 : decode b_Mo_limits 223 = .ok (.invokevirtual 557, 3) := dk_U2 a_Mo_limits_223 (dko_182 _) rfl
theorem d_Mo_limits_226 : decode b_Mo_limits 226 = .ok (.ireturn, 1) := dk_0 a_Mo_limits_226 (dko_172 _)
set_option maxHeartbeats 4000000 in
set_option maxRecDepth 100000 in
theorem ok_Mo_limits (pc : Nat) : OpS mt mi_Mo_limits pc (cs_Mo_limits pc) := (os_n (os_n (os_n (os_n (os_n (os_n (os_n (os_l (so_aload_n d_Mo_limits_0 rfl)) (os_l (so_get (C := R_Mo) (T := F_Mo) (N := 87) (j := 64) in_Mo rfl (by decide) mw_1858 d_Mo_limits_1))) (os_n (os_l (so_iload_n d_Mo_limits_4 rfl)) (os_l (so_baload d_Mo_limits_5)))) (os_n (os_n (os_l (so_ifne d_Mo_limits_6 (by decide))) (os_l (so_iconst d_Mo_limits_9 (by decide)))) (os_n (os_l (so_zreturn rfl d_Mo_limits_10)) (os_l (so_aload_n d_Mo_limits_11 rfl))))) (os_n (os_n (os_n (os_l (so_iload_n d_Mo_limits_12 rfl)) (os_l (so_callV (iv := mi_Mo_kind) rfl rfl rfl mw_2627 mw_2629 sl_184 mw_18 mw_2630 ⟨by decide +kernel, by decide +kernel, by decide +kernel⟩ (by decide) d_Mo_limits_13))) (os_n (os_l (so_istore_n d_Mo_limits_16 rfl (by decide))) (os_l (so_iload_n d_Mo_limits_17 rfl)))) (os_n (os_n (os_l (so_bipush d_Mo_limits_18 (by decide))) (os_l (so_icne d_Mo_limits_20 (by decide)))) (os_n (os_l (so_aload_n d_Mo_limits_23 rfl)) (os_n (os_l (so_get (C := R_Mo) (T := F_Mo) (N := 87) (j := 62) in_Mo rfl (by decide) mw_1856 d_Mo_limits_24)) (os_l (so_iload_n d_Mo_limits_27 rfl))))))) (os_n (os_n (os_n (os_n (os_l (so_iaload d_Mo_limits_28)) (os_l (so_istore_n d_Mo_limits_29 rfl (by decide)))) (os_n (os_l (so_iload_n d_Mo_limits_30 rfl)) (os_l (so_iconst d_Mo_limits_31 (by decide))))) (os_n (os_n (os_l (so_iceq d_Mo_limits_32 (by decide))) (os_l (so_aload_n d_Mo_limits_35 rfl))) (os_n (os_l (so_get (C := R_Mo) (T := F_Mo) (N := 87) (j := 66) in_Mo rfl (by decide) mw_1860 d_Mo_limits_36)) (os_l (so_iload_n d_Mo_limits_39 rfl))))) (os_n (os_n (os_n (os_l (so_baload d_Mo_limits_40)) (os_l (so_ifne d_Mo_limits_41 (by decide)))) (os_n (os_l (so_aload_n d_Mo_limits_44 rfl)) (os_l (so_iload_n d_Mo_limits_45 rfl)))) (os_n (os_n (os_l (so_callV (iv := mi_Mo_limits) rfl rfl rfl mw_2623 mw_2625 sl_183 mw_18 mw_2626 ⟨by decide +kernel, by decide +kernel, by decide +kernel⟩ (by decide) d_Mo_limits_46)) (os_l (so_ifne d_Mo_limits_49 (by decide)))) (os_n (os_l (so_iconst d_Mo_limits_52 (by decide))) (os_n (os_l (so_zreturn rfl d_Mo_limits_53)) (os_l (so_aload_n d_Mo_limits_54 rfl)))))))) (os_n (os_n (os_n (os_n (os_n (os_l (so_get (C := R_Mo) (T := F_Mo) (N := 87) (j := 63) in_Mo rfl (by decide) mw_1857 d_Mo_limits_55)) (os_l (so_iload_n d_Mo_limits_58 rfl))) (os_n (os_l (so_iaload d_Mo_limits_59)) (os_l (so_istore_n d_Mo_limits_60 rfl (by decide))))) (os_n (os_n (os_l (so_goto d_Mo_limits_61 (by decide))) (os_l (so_iconst d_Mo_limits_64 (by decide)))) (os_n (os_l (so_zreturn rfl d_Mo_limits_65)) (os_l (so_iload_n d_Mo_limits_66 rfl))))) (os_n (os_n (os_n (os_l (so_bipush d_Mo_limits_67 (by decide))) (os_l (so_icne d_Mo_limits_69 (by decide)))) (os_n (os_l (so_aload_n d_Mo_limits_72 rfl)) (os_l (so_aload_n d_Mo_limits_73 rfl)))) (os_n (os_n (os_l (so_get (C := R_Mo) (T := F_Mo) (N := 87) (j := 62) in_Mo rfl (by decide) mw_1856 d_Mo_limits_74)) (os_l (so_iload_n d_Mo_limits_77 rfl))) (os_n (os_l (so_iaload d_Mo_limits_78)) (os_n (os_l (so_callV (iv := mi_Mo_limits) rfl rfl rfl mw_2623 mw_2625 sl_183 mw_18 mw_2626 ⟨by decide +kernel, by decide +kernel, by decide +kernel⟩ (by decide) d_Mo_limits_79)) (os_l (so_zreturn rfl d_Mo_limits_82))))))) (os_n (os_n (os_n (os_n (os_l (so_iload_n d_Mo_limits_83 rfl)) (os_l (so_bipush d_Mo_limits_84 (by decide)))) (os_n (os_l (so_iceq d_Mo_limits_86 (by decide))) (os_l (so_iload_n d_Mo_limits_89 rfl)))) (os_n (os_n (os_l (so_bipush d_Mo_limits_90 (by decide))) (os_l (so_iceq d_Mo_limits_92 (by decide)))) (os_n (os_l (so_iload_n d_Mo_limits_95 rfl)) (os_n (os_l (so_bipush d_Mo_limits_96 (by decide))) (os_l (so_iceq d_Mo_limits_98 (by decide))))))) (os_n (os_n (os_n (os_l (so_iload_n d_Mo_limits_101 rfl)) (os_l (so_bipush d_Mo_limits_102 (by decide)))) (os_n (os_l (so_icne d_Mo_limits_104 (by decide))) (os_l (so_aload_n d_Mo_limits_107 rfl)))) (os_n (os_n (os_l (so_get (C := R_Mo) (T := F_Mo) (N := 87) (j := 67) in_Mo rfl (by decide) mw_1861 d_Mo_limits_108)) (os_l (so_iload_n d_Mo_limits_111 rfl))) (os_n (os_l (so_iaload d_Mo_limits_112)) (os_n (os_l (so_iconst d_Mo_limits_113 (by decide))) (os_l (so_icne d_Mo_limits_114 (by decide)))))))))) (os_n (os_n (os_n (os_n (os_n (os_n (os_l (so_iconst d_Mo_limits_117 (by decide))) (os_l (so_zreturn rfl d_Mo_limits_118))) (os_n (os_l (so_iload_n d_Mo_limits_119 rfl)) (os_l (so_bipush d_Mo_limits_120 (by decide))))) (os_n (os_n (os_l (so_icne d_Mo_limits_122 (by decide))) (os_l (so_aload_n d_Mo_limits_125 rfl))) (os_n (os_l (so_get (C := R_Mo) (T := F_Mo) (N := 87) (j := 67) in_Mo rfl (by decide) mw_1861 d_Mo_limits_126)) (os_l (so_iload_n d_Mo_limits_129 rfl))))) (os_n (os_n (os_n (os_l (so_iaload d_Mo_limits_130)) (os_l (so_aload_n d_Mo_limits_131 rfl))) (os_n (os_l (so_get (C := R_Mo) (T := F_Mo) (N := 87) (j := 62) in_Mo rfl (by decide) mw_1856 d_Mo_limits_132)) (os_l (so_iload_n d_Mo_limits_135 rfl)))) (os_n (os_n (os_l (so_iaload d_Mo_limits_136)) (os_l (so_icne d_Mo_limits_137 (by decide)))) (os_n (os_l (so_aload_n d_Mo_limits_140 rfl)) (os_n (os_l (so_aload_n d_Mo_limits_141 rfl)) (os_l (so_get (C := R_Mo) (T := F_Mo) (N := 87) (j := 2) in_Mo rfl (by decide) mw_1796 d_Mo_limits_142))))))) (os_n (os_n (os_n (os_n (os_l (so_aload_n d_Mo_limits_145 rfl)) (os_l (so_get (C := R_Mo) (T := F_Mo) (N := 87) (j := 61) in_Mo rfl (by decide) mw_1855 d_Mo_limits_146))) (os_n (os_l (so_iload_n d_Mo_limits_149 rfl)) (os_l (so_iaload d_Mo_limits_150)))) (os_n (os_n (os_l (so_iconst d_Mo_limits_151 (by decide))) (os_l (so_callVN (iv := mi_Tx_kid) rfl rfl rfl nw_2586 mw_2588 sl_177 mw_19 mw_2589 ⟨by decide +kernel, by decide +kernel, by decide +kernel⟩ (by decide) d_Mo_limits_152))) (os_n (os_l (so_callV (iv := mi_Mo_reckon) rfl rfl rfl mw_2631 mw_2633 sl_185 mw_18 mw_2634 ⟨by decide +kernel, by decide +kernel, by decide +kernel⟩ (by decide) d_Mo_limits_155)) (os_l (so_lstore_n d_Mo_limits_158 rfl (by decide)))))) (os_n (os_n (os_n (os_l (so_aload_n d_Mo_limits_159 rfl)) (os_l (so_callV (iv := mi_Mo_isBad) rfl rfl rfl mw_2635 mw_2637 sl_186 mw_18 mw_2638 ⟨by decide +kernel, by decide +kernel, by decide +kernel⟩ (by decide) d_Mo_limits_160))) (os_n (os_l (so_ifeq d_Mo_limits_163 (by decide))) (os_l (so_iconst d_Mo_limits_166 (by decide))))) (os_n (os_n (os_l (so_zreturn rfl d_Mo_limits_167)) (os_l (so_lload_n d_Mo_limits_168 rfl))) (os_n (os_l (so_lconst d_Mo_limits_169 (by decide))) (os_n (os_l (so_lcmp d_Mo_limits_170)) (os_l (so_ifne d_Mo_limits_171 (by decide))))))))) (os_n (os_n (os_n (os_n (os_n (os_l (so_aload_n d_Mo_limits_174 rfl)) (os_l (so_aload_n d_Mo_limits_175 rfl))) (os_n (os_l (so_get (C := R_Mo) (T := F_Mo) (N := 87) (j := 61) in_Mo rfl (by decide) mw_1855 d_Mo_limits_176)) (os_l (so_iload_n d_Mo_limits_179 rfl)))) (os_n (os_n (os_l (so_iaload d_Mo_limits_180)) (os_l (so_iconst d_Mo_limits_181 (by decide)))) (os_n (os_l (so_callV (iv := mi_Mo_raise) rfl rfl rfl mw_2521 mw_2523 sl_172 mw_18 mw_2524 ⟨by decide +kernel, by decide +kernel, by decide +kernel⟩ (by decide) d_Mo_limits_182)) (os_l (so_aload_n d_Mo_limits_185 rfl))))) (os_n (os_n (os_n (os_l (so_get (C := R_Mo) (T := F_Mo) (N := 87) (j := 67) in_Mo rfl (by decide) mw_1861 d_Mo_limits_186)) (os_l (so_iload_n d_Mo_limits_189 rfl))) (os_n (os_l (so_aload_n d_Mo_limits_190 rfl)) (os_l (so_get (C := R_Mo) (T := F_Mo) (N := 87) (j := 63) in_Mo rfl (by decide) mw_1857 d_Mo_limits_191)))) (os_n (os_n (os_l (so_aload_n d_Mo_limits_194 rfl)) (os_l (so_get (C := R_Mo) (T := F_Mo) (N := 87) (j := 62) in_Mo rfl (by decide) mw_1856 d_Mo_limits_195))) (os_n (os_l (so_iload_n d_Mo_limits_198 rfl)) (os_n (os_l (so_iaload d_Mo_limits_199)) (os_l (so_iaload d_Mo_limits_200))))))) (os_n (os_n (os_n (os_n (os_l (so_iastore d_Mo_limits_201)) (os_l (so_aload_n d_Mo_limits_202 rfl))) (os_n (os_l (so_get (C := R_Mo) (T := F_Mo) (N := 87) (j := 64) in_Mo rfl (by decide) mw_1858 d_Mo_limits_203)) (os_l (so_aload_n d_Mo_limits_206 rfl)))) (os_n (os_n (os_l (so_get (C := R_Mo) (T := F_Mo) (N := 87) (j := 67) in_Mo rfl (by decide) mw_1861 d_Mo_limits_207)) (os_l (so_iload_n d_Mo_limits_210 rfl))) (os_n (os_l (so_iaload d_Mo_limits_211)) (os_n (os_l (so_iconst d_Mo_limits_212 (by decide))) (os_l (so_bastore d_Mo_limits_213)))))) (os_n (os_n (os_n (os_l (so_iconst d_Mo_limits_214 (by decide))) (os_l (so_zreturn rfl d_Mo_limits_215))) (os_n (os_l (so_aload_n d_Mo_limits_216 rfl)) (os_l (so_aload_n d_Mo_limits_217 rfl)))) (os_n (os_n (os_l (so_get (C := R_Mo) (T := F_Mo) (N := 87) (j := 67) in_Mo rfl (by decide) mw_1861 d_Mo_limits_218)) (os_l (so_iload_n d_Mo_limits_221 rfl))) (os_n (os_l (so_iaload d_Mo_limits_222)) (os_n (os_l (so_callV (iv := mi_Mo_limits) rfl rfl rfl mw_2623 mw_2625 sl_183 mw_18 mw_2626 ⟨by decide +kernel, by decide +kernel, by decide +kernel⟩ (by decide) d_Mo_limits_223)) (os_l (so_zreturn rfl d_Mo_limits_226))))))))))
abbrev t_Mo_walk_82 : List UInt8 := 177 :: []
abbrev t_Mo_walk_79 : List UInt8 := 181 :: 2 :: 8 :: t_Mo_walk_82
abbrev t_Mo_walk_78 : List UInt8 := 96 :: t_Mo_walk_79
abbrev t_Mo_walk_77 : List UInt8 := 4 :: t_Mo_walk_78
abbrev t_Mo_walk_74 : List UInt8 := 180 :: 2 :: 8 :: t_Mo_walk_77
abbrev t_Mo_walk_73 : List UInt8 := 89 :: t_Mo_walk_74
abbrev t_Mo_walk_72 : List UInt8 := 42 :: t_Mo_walk_73
abbrev t_Mo_walk_69 : List UInt8 := 181 :: 0 :: 162 :: t_Mo_walk_72
abbrev t_Mo_walk_68 : List UInt8 := 3 :: t_Mo_walk_69
abbrev t_Mo_walk_65 : List UInt8 := 167 :: 0 :: 4 :: t_Mo_walk_68
abbrev t_Mo_walk_64 : List UInt8 := 5 :: t_Mo_walk_65
abbrev t_Mo_walk_61 : List UInt8 := 153 :: 0 :: 7 :: t_Mo_walk_64
abbrev t_Mo_walk_58 : List UInt8 := 180 :: 2 :: 26 :: t_Mo_walk_61
abbrev t_Mo_walk_57 : List UInt8 := 42 :: t_Mo_walk_58
abbrev t_Mo_walk_54 : List UInt8 := 159 :: 0 :: 10 :: t_Mo_walk_57
abbrev t_Mo_walk_53 : List UInt8 := 5 :: t_Mo_walk_54
abbrev t_Mo_walk_52 : List UInt8 := 27 :: t_Mo_walk_53
abbrev t_Mo_walk_49 : List UInt8 := 167 :: 0 :: 20 :: t_Mo_walk_52
abbrev t_Mo_walk_48 : List UInt8 := 4 :: t_Mo_walk_49
abbrev t_Mo_walk_45 : List UInt8 := 160 :: 0 :: 7 :: t_Mo_walk_48
abbrev t_Mo_walk_44 : List UInt8 := 4 :: t_Mo_walk_45
abbrev t_Mo_walk_43 : List UInt8 := 27 :: t_Mo_walk_44
abbrev t_Mo_walk_40 : List UInt8 := 167 :: 0 :: 29 :: t_Mo_walk_43
abbrev t_Mo_walk_39 : List UInt8 := 6 :: t_Mo_walk_40
abbrev t_Mo_walk_36 : List UInt8 := 160 :: 0 :: 7 :: t_Mo_walk_39
abbrev t_Mo_walk_35 : List UInt8 := 6 :: t_Mo_walk_36
abbrev t_Mo_walk_34 : List UInt8 := 27 :: t_Mo_walk_35
abbrev t_Mo_walk_33 : List UInt8 := 42 :: t_Mo_walk_34
abbrev t_Mo_walk_32 : List UInt8 := 60 :: t_Mo_walk_33
abbrev t_Mo_walk_31 : List UInt8 := 5 :: t_Mo_walk_32
abbrev t_Mo_walk_28 : List UInt8 := 167 :: 0 :: 4 :: t_Mo_walk_31
abbrev t_Mo_walk_25 : List UInt8 := 182 :: 2 :: 33 :: t_Mo_walk_28
abbrev t_Mo_walk_24 : List UInt8 := 3 :: t_Mo_walk_25
abbrev t_Mo_walk_23 : List UInt8 := 42 :: t_Mo_walk_24
abbrev t_Mo_walk_20 : List UInt8 := 153 :: 0 :: 11 :: t_Mo_walk_23
abbrev t_Mo_walk_17 : List UInt8 := 182 :: 2 :: 45 :: t_Mo_walk_20
abbrev t_Mo_walk_16 : List UInt8 := 3 :: t_Mo_walk_17
abbrev t_Mo_walk_15 : List UInt8 := 42 :: t_Mo_walk_16
abbrev t_Mo_walk_12 : List UInt8 := 181 :: 2 :: 26 :: t_Mo_walk_15
abbrev t_Mo_walk_11 : List UInt8 := 3 :: t_Mo_walk_12
abbrev t_Mo_walk_10 : List UInt8 := 42 :: t_Mo_walk_11
abbrev t_Mo_walk_7 : List UInt8 := 181 :: 2 :: 20 :: t_Mo_walk_10
abbrev t_Mo_walk_6 : List UInt8 := 3 :: t_Mo_walk_7
abbrev t_Mo_walk_5 : List UInt8 := 42 :: t_Mo_walk_6
abbrev t_Mo_walk_2 : List UInt8 := 181 :: 2 :: 17 :: t_Mo_walk_5
abbrev t_Mo_walk_1 : List UInt8 := 3 :: t_Mo_walk_2
abbrev t_Mo_walk_0 : List UInt8 := 42 :: t_Mo_walk_1
theorem a_Mo_walk_0 : dk_at b_Mo_walk 0 t_Mo_walk_0 := dk_start (by decide +kernel)
theorem a_Mo_walk_1 : dk_at b_Mo_walk 1 t_Mo_walk_1 := dk_go 1 a_Mo_walk_0 rfl
theorem a_Mo_walk_2 : dk_at b_Mo_walk 2 t_Mo_walk_2 := dk_go 1 a_Mo_walk_1 rfl
theorem a_Mo_walk_5 : dk_at b_Mo_walk 5 t_Mo_walk_5 := dk_go 3 a_Mo_walk_2 rfl
theorem a_Mo_walk_6 : dk_at b_Mo_walk 6 t_Mo_walk_6 := dk_go 1 a_Mo_walk_5 rfl
theorem a_Mo_walk_7 : dk_at b_Mo_walk 7 t_Mo_walk_7 := dk_go 1 a_Mo_walk_6 rfl
theorem a_Mo_walk_10 : dk_at b_Mo_walk 10 t_Mo_walk_10 := dk_go 3 a_Mo_walk_7 rfl
theorem a_Mo_walk_11 : dk_at b_Mo_walk 11 t_Mo_walk_11 := dk_go 1 a_Mo_walk_10 rfl
theorem a_Mo_walk_12 : dk_at b_Mo_walk 12 t_Mo_walk_12 := dk_go 1 a_Mo_walk_11 rfl
theorem a_Mo_walk_15 : dk_at b_Mo_walk 15 t_Mo_walk_15 := dk_go 3 a_Mo_walk_12 rfl
theorem a_Mo_walk_16 : dk_at b_Mo_walk 16 t_Mo_walk_16 := dk_go 1 a_Mo_walk_15 rfl
theorem a_Mo_walk_17 : dk_at b_Mo_walk 17 t_Mo_walk_17 := dk_go 1 a_Mo_walk_16 rfl
theorem a_Mo_walk_20 : dk_at b_Mo_walk 20 t_Mo_walk_20 := dk_go 3 a_Mo_walk_17 rfl
theorem a_Mo_walk_23 : dk_at b_Mo_walk 23 t_Mo_walk_23 := dk_go 3 a_Mo_walk_20 rfl
theorem a_Mo_walk_24 : dk_at b_Mo_walk 24 t_Mo_walk_24 := dk_go 1 a_Mo_walk_23 rfl
theorem a_Mo_walk_25 : dk_at b_Mo_walk 25 t_Mo_walk_25 := dk_go 1 a_Mo_walk_24 rfl
theorem a_Mo_walk_28 : dk_at b_Mo_walk 28 t_Mo_walk_28 := dk_go 3 a_Mo_walk_25 rfl
theorem a_Mo_walk_31 : dk_at b_Mo_walk 31 t_Mo_walk_31 := dk_go 3 a_Mo_walk_28 rfl
theorem a_Mo_walk_32 : dk_at b_Mo_walk 32 t_Mo_walk_32 := dk_go 1 a_Mo_walk_31 rfl
theorem a_Mo_walk_33 : dk_at b_Mo_walk 33 t_Mo_walk_33 := dk_go 1 a_Mo_walk_32 rfl
theorem a_Mo_walk_34 : dk_at b_Mo_walk 34 t_Mo_walk_34 := dk_go 1 a_Mo_walk_33 rfl
theorem a_Mo_walk_35 : dk_at b_Mo_walk 35 t_Mo_walk_35 := dk_go 1 a_Mo_walk_34 rfl
theorem a_Mo_walk_36 : dk_at b_Mo_walk 36 t_Mo_walk_36 := dk_go 1 a_Mo_walk_35 rfl
theorem a_Mo_walk_39 : dk_at b_Mo_walk 39 t_Mo_walk_39 := dk_go 3 a_Mo_walk_36 rfl
theorem a_Mo_walk_40 : dk_at b_Mo_walk 40 t_Mo_walk_40 := dk_go 1 a_Mo_walk_39 rfl
theorem a_Mo_walk_43 : dk_at b_Mo_walk 43 t_Mo_walk_43 := dk_go 3 a_Mo_walk_40 rfl
theorem a_Mo_walk_44 : dk_at b_Mo_walk 44 t_Mo_walk_44 := dk_go 1 a_Mo_walk_43 rfl
theorem a_Mo_walk_45 : dk_at b_Mo_walk 45 t_Mo_walk_45 := dk_go 1 a_Mo_walk_44 rfl
theorem a_Mo_walk_48 : dk_at b_Mo_walk 48 t_Mo_walk_48 := dk_go 3 a_Mo_walk_45 rfl
theorem a_Mo_walk_49 : dk_at b_Mo_walk 49 t_Mo_walk_49 := dk_go 1 a_Mo_walk_48 rfl
theorem a_Mo_walk_52 : dk_at b_Mo_walk 52 t_Mo_walk_52 := dk_go 3 a_Mo_walk_49 rfl
theorem a_Mo_walk_53 : dk_at b_Mo_walk 53 t_Mo_walk_53 := dk_go 1 a_Mo_walk_52 rfl
theorem a_Mo_walk_54 : dk_at b_Mo_walk 54 t_Mo_walk_54 := dk_go 1 a_Mo_walk_53 rfl
theorem a_Mo_walk_57 : dk_at b_Mo_walk 57 t_Mo_walk_57 := dk_go 3 a_Mo_walk_54 rfl
theorem a_Mo_walk_58 : dk_at b_Mo_walk 58 t_Mo_walk_58 := dk_go 1 a_Mo_walk_57 rfl
theorem a_Mo_walk_61 : dk_at b_Mo_walk 61 t_Mo_walk_61 := dk_go 3 a_Mo_walk_58 rfl
theorem a_Mo_walk_64 : dk_at b_Mo_walk 64 t_Mo_walk_64 := dk_go 3 a_Mo_walk_61 rfl
theorem a_Mo_walk_65 : dk_at b_Mo_walk 65 t_Mo_walk_65 := dk_go 1 a_Mo_walk_64 rfl
theorem a_Mo_walk_68 : dk_at b_Mo_walk 68 t_Mo_walk_68 := dk_go 3 a_Mo_walk_65 rfl
theorem a_Mo_walk_69 : dk_at b_Mo_walk 69 t_Mo_walk_69 := dk_go 1 a_Mo_walk_68 rfl
theorem a_Mo_walk_72 : dk_at b_Mo_walk 72 t_Mo_walk_72 := dk_go 3 a_Mo_walk_69 rfl
theorem a_Mo_walk_73 : dk_at b_Mo_walk 73 t_Mo_walk_73 := dk_go 1 a_Mo_walk_72 rfl
theorem a_Mo_walk_74 : dk_at b_Mo_walk 74 t_Mo_walk_74 := dk_go 1 a_Mo_walk_73 rfl
theorem a_Mo_walk_77 : dk_at b_Mo_walk 77 t_Mo_walk_77 := dk_go 3 a_Mo_walk_74 rfl
theorem a_Mo_walk_78 : dk_at b_Mo_walk 78 t_Mo_walk_78 := dk_go 1 a_Mo_walk_77 rfl
theorem a_Mo_walk_79 : dk_at b_Mo_walk 79 t_Mo_walk_79 := dk_go 1 a_Mo_walk_78 rfl
theorem a_Mo_walk_82 : dk_at b_Mo_walk 82 t_Mo_walk_82 := dk_go 3 a_Mo_walk_79 rfl
theorem d_Mo_walk_0 : decode b_Mo_walk 0 = .ok (.aload_n 0, 1) := dk_0 a_Mo_walk_0 (dko_42 _)
theorem d_Mo_walk_1 : decode b_Mo_walk 1 = .ok (.iconst 0, 1) := dk_0 a_Mo_walk_1 (dko_3 _)
theorem d_Mo_walk_2 : decode b_Mo_walk 2 = .ok (.putfield 529, 3) := dk_U2 a_Mo_walk_2 (dko_181 _) rfl
theorem d_Mo_walk_5 : decode b_Mo_walk 5 = .ok (.aload_n 0, 1) := dk_0 a_Mo_walk_5 (dko_42 _)
theorem d_Mo_walk_6 : decode b_Mo_walk 6 = .ok (.iconst 0, 1) := dk_0 a_Mo_walk_6 (dko_3 _)
theorem d_Mo_walk_7 : decode b_Mo_walk 7 = .ok (.putfield 532, 3) := dk_U2 a_Mo_walk_7 (dko_181 _) rfl
theorem d_Mo_walk_10 : decode b_Mo_walk 10 = .ok (.aload_n 0, 1) := dk_0 a_Mo_walk_10 (dko_42 _)
theorem d_Mo_walk_11 : decode b_Mo_walk 11 = .ok (.iconst 0, 1) := dk_0 a_Mo_walk_11 (dko_3 _)
theorem d_Mo_walk_12 : decode b_Mo_walk 12 = .ok (.putfield 538, 3) := dk_U2 a_Mo_walk_12 (dko_181 _) rfl
theorem d_Mo_walk_15 : decode b_Mo_walk 15 = .ok (.aload_n 0, 1) := dk_0 a_Mo_walk_15 (dko_42 _)
theorem d_Mo_walk_16 : decode b_Mo_walk 16 = .ok (.iconst 0, 1) := dk_0 a_Mo_walk_16 (dko_3 _)
theorem d_Mo_walk_17 : decode b_Mo_walk 17 = .ok (.invokevirtual 557, 3) := dk_U2 a_Mo_walk_17 (dko_182 _) rfl
theorem d_Mo_walk_20 : decode b_Mo_walk 20 = .ok (.ifCond .eq 11, 3) := dk_S2 a_Mo_walk_20 (dko_153 _) (by decide +kernel)
theorem d_Mo_walk_23 : decode b_Mo_walk 23 = .ok (.aload_n 0, 1) := dk_0 a_Mo_walk_23 (dko_42 _)
theorem d_Mo_walk_24 : decode b_Mo_walk 24 = .ok (.iconst 0, 1) := dk_0 a_Mo_walk_24 (dko_3 _)
theorem d_Mo_walk_25 : decode b_Mo_walk 25 = .ok (.invokevirtual 545, 3) := dk_U2 a_Mo_walk_25 (dko_182 _) rfl
theorem d_Mo_walk_28 : decode b_Mo_walk 28 = .ok (.goto 4, 3) := dk_S2 a_Mo_walk_28 (dko_167 _) (by decide +kernel)
theorem d_Mo_walk_31 : decode b_Mo_walk 31 = .ok (.iconst 2, 1) := dk_0 a_Mo_walk_31 (dko_5 _)
theorem d_Mo_walk_32 : decode b_Mo_walk 32 = .ok (.istore_n 1, 1) := dk_0 a_Mo_walk_32 (dko_60 _)
theorem d_Mo_walk_33 : decode b_Mo_walk 33 = .ok (.aload_n 0, 1) := dk_0 a_Mo_walk_33 (dko_42 _)
theorem d_Mo_walk_34 : decode b_Mo_walk 34 = .ok (.iload_n 1, 1) := dk_0 a_Mo_walk_34 (dko_27 _)
theorem d_Mo_walk_35 : decode b_Mo_walk 35 = .ok (.iconst 3, 1) := dk_0 a_Mo_walk_35 (dko_6 _)
theorem d_Mo_walk_36 : decode b_Mo_walk 36 = .ok (.if_icmp .ne 7, 3) := dk_S2 a_Mo_walk_36 (dko_160 _) (by decide +kernel)
theorem d_Mo_walk_39 : decode b_Mo_walk 39 = .ok (.iconst 3, 1) := dk_0 a_Mo_walk_39 (dko_6 _)
theorem d_Mo_walk_40 : decode b_Mo_walk 40 = .ok (.goto 29, 3) := dk_S2 a_Mo_walk_40 (dko_167 _) (by decide +kernel)
theorem d_Mo_walk_43 : decode b_Mo_walk 43 = .ok (.iload_n 1, 1) := dk_0 a_Mo_walk_43 (dko_27 _)
theorem d_Mo_walk_44 : decode b_Mo_walk 44 = .ok (.iconst 1, 1) := dk_0 a_Mo_walk_44 (dko_4 _)
theorem d_Mo_walk_45 : decode b_Mo_walk 45 = .ok (.if_icmp .ne 7, 3) := dk_S2 a_Mo_walk_45 (dko_160 _) (by decide +kernel)
theorem d_Mo_walk_48 : decode b_Mo_walk 48 = .ok (.iconst 1, 1) := dk_0 a_Mo_walk_48 (dko_4 _)
theorem d_Mo_walk_49 : decode b_Mo_walk 49 = .ok (.goto 20, 3) := dk_S2 a_Mo_walk_49 (dko_167 _) (by decide +kernel)
theorem d_Mo_walk_52 : decode b_Mo_walk 52 = .ok (.iload_n 1, 1) := dk_0 a_Mo_walk_52 (dko_27 _)
theorem d_Mo_walk_53 : decode b_Mo_walk 53 = .ok (.iconst 2, 1) := dk_0 a_Mo_walk_53 (dko_5 _)
theorem d_Mo_walk_54 : decode b_Mo_walk 54 = .ok (.if_icmp .eq 10, 3) := dk_S2 a_Mo_walk_54 (dko_159 _) (by decide +kernel)
theorem d_Mo_walk_57 : decode b_Mo_walk 57 = .ok (.aload_n 0, 1) := dk_0 a_Mo_walk_57 (dko_42 _)
theorem d_Mo_walk_58 : decode b_Mo_walk 58 = .ok (.getfield 538, 3) := dk_U2 a_Mo_walk_58 (dko_180 _) rfl
theorem d_Mo_walk_61 : decode b_Mo_walk 61 = .ok (.ifCond .eq 7, 3) := dk_S2 a_Mo_walk_61 (dko_153 _) (by decide +kernel)
theorem d_Mo_walk_64 : decode b_Mo_walk 64 = .ok (.iconst 2, 1) := dk_0 a_Mo_walk_64 (dko_5 _)
theorem d_Mo_walk_65 : decode b_Mo_walk 65 = .ok (.goto 4, 3) := dk_S2 a_Mo_walk_65 (dko_167 _) (by decide +kernel)
theorem d_Mo_walk_68 : decode b_Mo_walk 68 = .ok (.iconst 0, 1) := dk_0 a_Mo_walk_68 (dko_3 _)
theorem d_Mo_walk_69 : decode b_Mo_walk 69 = .ok (.putfield 162, 3) := dk_U2 a_Mo_walk_69 (dko_181 _) rfl
theorem d_Mo_walk_72 : decode b_Mo_walk 72 = .ok (.aload_n 0, 1) := dk_0 a_Mo_walk_72 (dko_42 _)
theorem d_Mo_walk_73 : decode b_Mo_walk 73 = .ok (.dup, 1) := dk_0 a_Mo_walk_73 (dko_89 _)
theorem d_Mo_walk_74 : decode b_Mo_walk 74 = .ok (.getfield 520, 3) := dk_U2 a_Mo_walk_74 (dko_180 _) rfl
theorem d_Mo_walk_77 : decode b_Mo_walk 77 = .ok (.iconst 1, 1) := dk_0 a_Mo_walk_77 (dko_4 _)
theorem d_Mo_walk_78 : decode b_Mo_walk 78 = .ok (.iadd, 1) := dk_0 a_Mo_walk_78 (dko_96 _)
theorem d_Mo_walk_79 : decode b_Mo_walk 79 = .ok (.putfield 520, 3) := dk_U2 a_Mo_walk_79 (dko_181 _) rfl
theorem d_Mo_walk_82 : decode b_Mo_walk 82 = .ok (.return_, 1) := dk_0 a_Mo_walk_82 (dko_177 _)
set_option maxHeartbeats 4000000 in
set_option maxRecDepth 100000 in
theorem ok_Mo_walk (pc : Nat) : OpS mt mi_Mo_walk pc (cs_Mo_walk pc) := (os_n (os_n (os_n (os_n (os_n (os_l (so_aload_n d_Mo_walk_0 rfl)) (os_l (so_iconst d_Mo_walk_1 (by decide)))) (os_n (os_l (so_putI (C := R_Mo) (T := F_Mo) (N := 87) (j := 72) in_Mo t_Mo_ok n_Mo rfl (by decide) mw_1866 rfl (by decide +kernel) d_Mo_walk_2)) (os_n (os_l (so_aload_n d_Mo_walk_5 rfl)) (os_l (so_iconst d_Mo_walk_6 (by decide)))))) (os_n (os_n (os_l (so_putI (C := R_Mo) (T := F_Mo) (N := 87) (j := 73) in_Mo t_Mo_ok n_Mo rfl (by decide) mw_1867 rfl (by decide +kernel) d_Mo_walk_7)) (os_n (os_l (so_aload_n d_Mo_walk_10 rfl)) (os_l (so_iconst d_Mo_walk_11 (by decide))))) (os_n (os_l (so_putZ (C := R_Mo) (T := F_Mo) (N := 87) (j := 75) in_Mo t_Mo_ok n_Mo rfl (by decide) mw_1869 rfl (by decide +kernel) d_Mo_walk_12)) (os_n (os_l (so_aload_n d_Mo_walk_15 rfl)) (os_l (so_iconst d_Mo_walk_16 (by decide))))))) (os_n (os_n (os_n (os_l (so_callV (iv := mi_Mo_limits) rfl rfl rfl mw_2623 mw_2625 sl_183 mw_18 mw_2626 ⟨by decide +kernel, by decide +kernel, by decide +kernel⟩ (by decide) d_Mo_walk_17)) (os_n (os_l (so_ifeq d_Mo_walk_20 (by decide))) (os_l (so_aload_n d_Mo_walk_23 rfl)))) (os_n (os_l (so_iconst d_Mo_walk_24 (by decide))) (os_n (os_l (so_callV (iv := mi_Mo_go) rfl rfl rfl mw_2639 mw_2641 sl_187 mw_18 mw_2642 ⟨by decide +kernel, by decide +kernel, by decide +kernel⟩ (by decide) d_Mo_walk_25)) (os_l (so_goto d_Mo_walk_28 (by decide)))))) (os_n (os_n (os_l (so_iconst d_Mo_walk_31 (by decide))) (os_n (os_l (so_istore_n d_Mo_walk_32 rfl (by decide))) (os_l (so_aload_n d_Mo_walk_33 rfl)))) (os_n (os_l (so_iload_n d_Mo_walk_34 rfl)) (os_n (os_l (so_iconst d_Mo_walk_35 (by decide))) (os_l (so_icne d_Mo_walk_36 (by decide)))))))) (os_n (os_n (os_n (os_n (os_l (so_iconst d_Mo_walk_39 (by decide))) (os_n (os_l (so_goto d_Mo_walk_40 (by decide))) (os_l (so_iload_n d_Mo_walk_43 rfl)))) (os_n (os_l (so_iconst d_Mo_walk_44 (by decide))) (os_n (os_l (so_icne d_Mo_walk_45 (by decide))) (os_l (so_iconst d_Mo_walk_48 (by decide)))))) (os_n (os_n (os_l (so_goto d_Mo_walk_49 (by decide))) (os_n (os_l (so_iload_n d_Mo_walk_52 rfl)) (os_l (so_iconst d_Mo_walk_53 (by decide))))) (os_n (os_l (so_iceq d_Mo_walk_54 (by decide))) (os_n (os_l (so_aload_n d_Mo_walk_57 rfl)) (os_l (so_get (C := R_Mo) (T := F_Mo) (N := 87) (j := 75) in_Mo rfl (by decide) mw_1869 d_Mo_walk_58)))))) (os_n (os_n (os_n (os_l (so_ifeq d_Mo_walk_61 (by decide))) (os_n (os_l (so_iconst d_Mo_walk_64 (by decide))) (os_l (so_goto d_Mo_walk_65 (by decide))))) (os_n (os_l (so_iconst d_Mo_walk_68 (by decide))) (os_n (os_l (so_putI (C := R_Mo) (T := F_Mo) (N := 87) (j := 59) in_Mo t_Mo_ok n_Mo rfl (by decide) mw_1853 rfl (by decide +kernel) d_Mo_walk_69)) (os_l (so_aload_n d_Mo_walk_72 rfl))))) (os_n (os_n (os_l (so_dup d_Mo_walk_73)) (os_n (os_l (so_get (C := R_Mo) (T := F_Mo) (N := 87) (j := 74) in_Mo rfl (by decide) mw_1868 d_Mo_walk_74)) (os_l (so_iconst d_Mo_walk_77 (by decide))))) (os_n (os_l (so_iadd d_Mo_walk_78)) (os_n (os_l (so_putI (C := R_Mo) (T := F_Mo) (N := 87) (j := 74) in_Mo t_Mo_ok n_Mo rfl (by decide) mw_1868 rfl (by decide +kernel) d_Mo_walk_79)) (os_l (so_return rfl d_Mo_walk_82))))))))
abbrev t_Mo_tick_108 : List UInt8 := 172 :: []
abbrev t_Mo_tick_105 : List UInt8 := 180 :: 0 :: 162 :: t_Mo_tick_108
abbrev t_Mo_tick_104 : List UInt8 := 42 :: t_Mo_tick_105
abbrev t_Mo_tick_101 : List UInt8 := 167 :: 255 :: 170 :: t_Mo_tick_104
abbrev t_Mo_tick_98 : List UInt8 := 132 :: 2 :: 1 :: t_Mo_tick_101
abbrev t_Mo_tick_95 : List UInt8 := 181 :: 1 :: 70 :: t_Mo_tick_98
abbrev t_Mo_tick_94 : List UInt8 := 96 :: t_Mo_tick_95
abbrev t_Mo_tick_93 : List UInt8 := 4 :: t_Mo_tick_94
abbrev t_Mo_tick_90 : List UInt8 := 180 :: 1 :: 70 :: t_Mo_tick_93
abbrev t_Mo_tick_89 : List UInt8 := 89 :: t_Mo_tick_90
abbrev t_Mo_tick_88 : List UInt8 := 42 :: t_Mo_tick_89
abbrev t_Mo_tick_85 : List UInt8 := 167 :: 255 :: 238 :: t_Mo_tick_88
abbrev t_Mo_tick_82 : List UInt8 := 132 :: 4 :: 1 :: t_Mo_tick_85
abbrev t_Mo_tick_79 : List UInt8 := 182 :: 2 :: 57 :: t_Mo_tick_82
abbrev t_Mo_tick_77 : List UInt8 := 21 :: 4 :: t_Mo_tick_79
abbrev t_Mo_tick_76 : List UInt8 := 42 :: t_Mo_tick_77
abbrev t_Mo_tick_73 : List UInt8 := 162 :: 0 :: 15 :: t_Mo_tick_76
abbrev t_Mo_tick_70 : List UInt8 := 180 :: 1 :: 28 :: t_Mo_tick_73
abbrev t_Mo_tick_69 : List UInt8 := 42 :: t_Mo_tick_70
abbrev t_Mo_tick_67 : List UInt8 := 21 :: 4 :: t_Mo_tick_69
abbrev t_Mo_tick_65 : List UInt8 := 54 :: 4 :: t_Mo_tick_67
abbrev t_Mo_tick_64 : List UInt8 := 3 :: t_Mo_tick_65
abbrev t_Mo_tick_61 : List UInt8 := 182 :: 0 :: 231 :: t_Mo_tick_64
abbrev t_Mo_tick_60 : List UInt8 := 42 :: t_Mo_tick_61
abbrev t_Mo_tick_57 : List UInt8 := 160 :: 0 :: 7 :: t_Mo_tick_60
abbrev t_Mo_tick_56 : List UInt8 := 6 :: t_Mo_tick_57
abbrev t_Mo_tick_53 : List UInt8 := 180 :: 0 :: 162 :: t_Mo_tick_56
abbrev t_Mo_tick_52 : List UInt8 := 42 :: t_Mo_tick_53
abbrev t_Mo_tick_49 : List UInt8 := 159 :: 0 :: 11 :: t_Mo_tick_52
abbrev t_Mo_tick_48 : List UInt8 := 5 :: t_Mo_tick_49
abbrev t_Mo_tick_45 : List UInt8 := 180 :: 0 :: 162 :: t_Mo_tick_48
abbrev t_Mo_tick_44 : List UInt8 := 42 :: t_Mo_tick_45
abbrev t_Mo_tick_41 : List UInt8 := 182 :: 2 :: 54 :: t_Mo_tick_44
abbrev t_Mo_tick_40 : List UInt8 := 42 :: t_Mo_tick_41
abbrev t_Mo_tick_37 : List UInt8 := 154 :: 0 :: 27 :: t_Mo_tick_40
abbrev t_Mo_tick_34 : List UInt8 := 180 :: 0 :: 162 :: t_Mo_tick_37
abbrev t_Mo_tick_33 : List UInt8 := 42 :: t_Mo_tick_34
abbrev t_Mo_tick_32 : List UInt8 := 62 :: t_Mo_tick_33
abbrev t_Mo_tick_29 : List UInt8 := 182 :: 2 :: 51 :: t_Mo_tick_32
abbrev t_Mo_tick_28 : List UInt8 := 4 :: t_Mo_tick_29
abbrev t_Mo_tick_25 : List UInt8 := 180 :: 0 :: 23 :: t_Mo_tick_28
abbrev t_Mo_tick_24 : List UInt8 := 42 :: t_Mo_tick_25
abbrev t_Mo_tick_21 : List UInt8 := 182 :: 2 :: 48 :: t_Mo_tick_24
abbrev t_Mo_tick_20 : List UInt8 := 42 :: t_Mo_tick_21
abbrev t_Mo_tick_17 : List UInt8 := 162 :: 0 :: 87 :: t_Mo_tick_20
abbrev t_Mo_tick_16 : List UInt8 := 27 :: t_Mo_tick_17
abbrev t_Mo_tick_15 : List UInt8 := 28 :: t_Mo_tick_16
abbrev t_Mo_tick_14 : List UInt8 := 61 :: t_Mo_tick_15
abbrev t_Mo_tick_13 : List UInt8 := 3 :: t_Mo_tick_14
abbrev t_Mo_tick_12 : List UInt8 := 172 :: t_Mo_tick_13
abbrev t_Mo_tick_11 : List UInt8 := 2 :: t_Mo_tick_12
abbrev t_Mo_tick_8 : List UInt8 := 164 :: 0 :: 5 :: t_Mo_tick_11
abbrev t_Mo_tick_5 : List UInt8 := 17 :: 2 :: 88 :: t_Mo_tick_8
abbrev t_Mo_tick_4 : List UInt8 := 27 :: t_Mo_tick_5
abbrev t_Mo_tick_1 : List UInt8 := 155 :: 0 :: 10 :: t_Mo_tick_4
abbrev t_Mo_tick_0 : List UInt8 := 27 :: t_Mo_tick_1
theorem a_Mo_tick_0 : dk_at b_Mo_tick 0 t_Mo_tick_0 := dk_start (by decide +kernel)
theorem a_Mo_tick_1 : dk_at b_Mo_tick 1 t_Mo_tick_1 := dk_go 1 a_Mo_tick_0 rfl
theorem a_Mo_tick_4 : dk_at b_Mo_tick 4 t_Mo_tick_4 := dk_go 3 a_Mo_tick_1 rfl
theorem a_Mo_tick_5 : dk_at b_Mo_tick 5 t_Mo_tick_5 := dk_go 1 a_Mo_tick_4 rfl
theorem a_Mo_tick_8 : dk_at b_Mo_tick 8 t_Mo_tick_8 := dk_go 3 a_Mo_tick_5 rfl
theorem a_Mo_tick_11 : dk_at b_Mo_tick 11 t_Mo_tick_11 := dk_go 3 a_Mo_tick_8 rfl
theorem a_Mo_tick_12 : dk_at b_Mo_tick 12 t_Mo_tick_12 := dk_go 1 a_Mo_tick_11 rfl
theorem a_Mo_tick_13 : dk_at b_Mo_tick 13 t_Mo_tick_13 := dk_go 1 a_Mo_tick_12 rfl
theorem a_Mo_tick_14 : dk_at b_Mo_tick 14 t_Mo_tick_14 := dk_go 1 a_Mo_tick_13 rfl
theorem a_Mo_tick_15 : dk_at b_Mo_tick 15 t_Mo_tick_15 := dk_go 1 a_Mo_tick_14 rfl
theorem a_Mo_tick_16 : dk_at b_Mo_tick 16 t_Mo_tick_16 := dk_go 1 a_Mo_tick_15 rfl
theorem a_Mo_tick_17 : dk_at b_Mo_tick 17 t_Mo_tick_17 := dk_go 1 a_Mo_tick_16 rfl
theorem a_Mo_tick_20 : dk_at b_Mo_tick 20 t_Mo_tick_20 := dk_go 3 a_Mo_tick_17 rfl
theorem a_Mo_tick_21 : dk_at b_Mo_tick 21 t_Mo_tick_21 := dk_go 1 a_Mo_tick_20 rfl
theorem a_Mo_tick_24 : dk_at b_Mo_tick 24 t_Mo_tick_24 := dk_go 3 a_Mo_tick_21 rfl
theorem a_Mo_tick_25 : dk_at b_Mo_tick 25 t_Mo_tick_25 := dk_go 1 a_Mo_tick_24 rfl
theorem a_Mo_tick_28 : dk_at b_Mo_tick 28 t_Mo_tick_28 := dk_go 3 a_Mo_tick_25 rfl
theorem a_Mo_tick_29 : dk_at b_Mo_tick 29 t_Mo_tick_29 := dk_go 1 a_Mo_tick_28 rfl
theorem a_Mo_tick_32 : dk_at b_Mo_tick 32 t_Mo_tick_32 := dk_go 3 a_Mo_tick_29 rfl
theorem a_Mo_tick_33 : dk_at b_Mo_tick 33 t_Mo_tick_33 := dk_go 1 a_Mo_tick_32 rfl
theorem a_Mo_tick_34 : dk_at b_Mo_tick 34 t_Mo_tick_34 := dk_go 1 a_Mo_tick_33 rfl
theorem a_Mo_tick_37 : dk_at b_Mo_tick 37 t_Mo_tick_37 := dk_go 3 a_Mo_tick_34 rfl
theorem a_Mo_tick_40 : dk_at b_Mo_tick 40 t_Mo_tick_40 := dk_go 3 a_Mo_tick_37 rfl
theorem a_Mo_tick_41 : dk_at b_Mo_tick 41 t_Mo_tick_41 := dk_go 1 a_Mo_tick_40 rfl
theorem a_Mo_tick_44 : dk_at b_Mo_tick 44 t_Mo_tick_44 := dk_go 3 a_Mo_tick_41 rfl
theorem a_Mo_tick_45 : dk_at b_Mo_tick 45 t_Mo_tick_45 := dk_go 1 a_Mo_tick_44 rfl
theorem a_Mo_tick_48 : dk_at b_Mo_tick 48 t_Mo_tick_48 := dk_go 3 a_Mo_tick_45 rfl
theorem a_Mo_tick_49 : dk_at b_Mo_tick 49 t_Mo_tick_49 := dk_go 1 a_Mo_tick_48 rfl
theorem a_Mo_tick_52 : dk_at b_Mo_tick 52 t_Mo_tick_52 := dk_go 3 a_Mo_tick_49 rfl
theorem a_Mo_tick_53 : dk_at b_Mo_tick 53 t_Mo_tick_53 := dk_go 1 a_Mo_tick_52 rfl
theorem a_Mo_tick_56 : dk_at b_Mo_tick 56 t_Mo_tick_56 := dk_go 3 a_Mo_tick_53 rfl
theorem a_Mo_tick_57 : dk_at b_Mo_tick 57 t_Mo_tick_57 := dk_go 1 a_Mo_tick_56 rfl
theorem a_Mo_tick_60 : dk_at b_Mo_tick 60 t_Mo_tick_60 := dk_go 3 a_Mo_tick_57 rfl
theorem a_Mo_tick_61 : dk_at b_Mo_tick 61 t_Mo_tick_61 := dk_go 1 a_Mo_tick_60 rfl
theorem a_Mo_tick_64 : dk_at b_Mo_tick 64 t_Mo_tick_64 := dk_go 3 a_Mo_tick_61 rfl
theorem a_Mo_tick_65 : dk_at b_Mo_tick 65 t_Mo_tick_65 := dk_go 1 a_Mo_tick_64 rfl
theorem a_Mo_tick_67 : dk_at b_Mo_tick 67 t_Mo_tick_67 := dk_go 2 a_Mo_tick_65 rfl
theorem a_Mo_tick_69 : dk_at b_Mo_tick 69 t_Mo_tick_69 := dk_go 2 a_Mo_tick_67 rfl
theorem a_Mo_tick_70 : dk_at b_Mo_tick 70 t_Mo_tick_70 := dk_go 1 a_Mo_tick_69 rfl
theorem a_Mo_tick_73 : dk_at b_Mo_tick 73 t_Mo_tick_73 := dk_go 3 a_Mo_tick_70 rfl
theorem a_Mo_tick_76 : dk_at b_Mo_tick 76 t_Mo_tick_76 := dk_go 3 a_Mo_tick_73 rfl
theorem a_Mo_tick_77 : dk_at b_Mo_tick 77 t_Mo_tick_77 := dk_go 1 a_Mo_tick_76 rfl
theorem a_Mo_tick_79 : dk_at b_Mo_tick 79 t_Mo_tick_79 := dk_go 2 a_Mo_tick_77 rfl
theorem a_Mo_tick_82 : dk_at b_Mo_tick 82 t_Mo_tick_82 := dk_go 3 a_Mo_tick_79 rfl
theorem a_Mo_tick_85 : dk_at b_Mo_tick 85 t_Mo_tick_85 := dk_go 3 a_Mo_tick_82 rfl
theorem a_Mo_tick_88 : dk_at b_Mo_tick 88 t_Mo_tick_88 := dk_go 3 a_Mo_tick_85 rfl
theorem a_Mo_tick_89 : dk_at b_Mo_tick 89 t_Mo_tick_89 := dk_go 1 a_Mo_tick_88 rfl
theorem a_Mo_tick_90 : dk_at b_Mo_tick 90 t_Mo_tick_90 := dk_go 1 a_Mo_tick_89 rfl
theorem a_Mo_tick_93 : dk_at b_Mo_tick 93 t_Mo_tick_93 := dk_go 3 a_Mo_tick_90 rfl
theorem a_Mo_tick_94 : dk_at b_Mo_tick 94 t_Mo_tick_94 := dk_go 1 a_Mo_tick_93 rfl
theorem a_Mo_tick_95 : dk_at b_Mo_tick 95 t_Mo_tick_95 := dk_go 1 a_Mo_tick_94 rfl
theorem a_Mo_tick_98 : dk_at b_Mo_tick 98 t_Mo_tick_98 := dk_go 3 a_Mo_tick_95 rfl
theorem a_Mo_tick_101 : dk_at b_Mo_tick 101 t_Mo_tick_101 := dk_go 3 a_Mo_tick_98 rfl
theorem a_Mo_tick_104 : dk_at b_Mo_tick 104 t_Mo_tick_104 := dk_go 3 a_Mo_tick_101 rfl
theorem a_Mo_tick_105 : dk_at b_Mo_tick 105 t_Mo_tick_105 := dk_go 1 a_Mo_tick_104 rfl
theorem a_Mo_tick_108 : dk_at b_Mo_tick 108 t_Mo_tick_108 := dk_go 3 a_Mo_tick_105 rfl
theorem d_Mo_tick_0 : decode b_Mo_tick 0 = .ok (.iload_n 1, 1) := dk_0 a_Mo_tick_0 (dko_27 _)
theorem d_Mo_tick_1 : decode b_Mo_tick 1 = .ok (.ifCond .lt 10, 3) := dk_S2 a_Mo_tick_1 (dko_155 _) (by decide +kernel)
theorem d_Mo_tick_4 : decode b_Mo_tick 4 = .ok (.iload_n 1, 1) := dk_0 a_Mo_tick_4 (dko_27 _)
theorem d_Mo_tick_5 : decode b_Mo_tick 5 = .ok (.sipush 600, 3) := dk_S2 a_Mo_tick_5 (dko_17 _) (by decide +kernel)
theorem d_Mo_tick_8 : decode b_Mo_tick 8 = .ok (.if_icmp .le 5, 3) := dk_S2 a_Mo_tick_8 (dko_164 _) (by decide +kernel)
theorem d_Mo_tick_11 : decode b_Mo_tick 11 = .ok (.iconst (-1), 1) := dk_0 a_Mo_tick_11 (dko_2 _)
theorem d_Mo_tick_12 : decode b_Mo_tick 12 = .ok (.ireturn, 1) := dk_0 a_Mo_tick_12 (dko_172 _)
theorem d_Mo_tick_13 : decode b_Mo_tick 13 = .ok (.iconst 0, 1) := dk_0 a_Mo_tick_13 (dko_3 _)
theorem d_Mo_tick_14 : decode b_Mo_tick 14 = .ok (.istore_n 2, 1) := dk_0 a_Mo_tick_14 (dko_61 _)
theorem d_Mo_tick_15 : decode b_Mo_tick 15 = .ok (.iload_n 2, 1) := dk_0 a_Mo_tick_15 (dko_28 _)
theorem d_Mo_tick_16 : decode b_Mo_tick 16 = .ok (.iload_n 1, 1) := dk_0 a_Mo_tick_16 (dko_27 _)
theorem d_Mo_tick_17 : decode b_Mo_tick 17 = .ok (.if_icmp .ge 87, 3) := dk_S2 a_Mo_tick_17 (dko_162 _) (by decide +kernel)
theorem d_Mo_tick_20 : decode b_Mo_tick 20 = .ok (.aload_n 0, 1) := dk_0 a_Mo_tick_20 (dko_42 _)
theorem d_Mo_tick_21 : decode b_Mo_tick 21 = .ok (.invokevirtual 560, 3) := dk_U2 a_Mo_tick_21 (dko_182 _) rfl
theorem d_Mo_tick_24 : decode b_Mo_tick 24 = .ok (.aload_n 0, 1) := dk_0 a_Mo_tick_24 (dko_42 _)
theorem d_Mo_tick_25 : decode b_Mo_tick 25 = .ok (.getfield 23, 3) := dk_U2 a_Mo_tick_25 (dko_180 _) rfl
theorem d_Mo_tick_28 : decode b_Mo_tick 28 = .ok (.iconst 1, 1) := dk_0 a_Mo_tick_28 (dko_4 _)
theorem d_Mo_tick_29 : decode b_Mo_tick 29 = .ok (.invokevirtual 563, 3) := dk_U2 a_Mo_tick_29 (dko_182 _) rfl
theorem d_Mo_tick_32 : decode b_Mo_tick 32 = .ok (.istore_n 3, 1) := dk_0 a_Mo_tick_32 (dko_62 _)
theorem d_Mo_tick_33 : decode b_Mo_tick 33 = .ok (.aload_n 0, 1) := dk_0 a_Mo_tick_33 (dko_42 _)
theorem d_Mo_tick_34 : decode b_Mo_tick 34 = .ok (.getfield 162, 3) := dk_U2 a_Mo_tick_34 (dko_180 _) rfl
theorem d_Mo_tick_37 : decode b_Mo_tick 37 = .ok (.ifCond .ne 27, 3) := dk_S2 a_Mo_tick_37 (dko_154 _) (by decide +kernel)
theorem d_Mo_tick_40 : decode b_Mo_tick 40 = .ok (.aload_n 0, 1) := dk_0 a_Mo_tick_40 (dko_42 _)
theorem d_Mo_tick_41 : decode b_Mo_tick 41 = .ok (.invokevirtual 566, 3) := dk_U2 a_Mo_tick_41 (dko_182 _) rfl
theorem d_Mo_tick_44 : decode b_Mo_tick 44 = .ok (.aload_n 0, 1) := dk_0 a_Mo_tick_44 (dko_42 _)
theorem d_Mo_tick_45 : decode b_Mo_tick 45 = .ok (.getfield 162, 3) := dk_U2 a_Mo_tick_45 (dko_180 _) rfl
theorem d_Mo_tick_48 : decode b_Mo_tick 48 = .ok (.iconst 2, 1) := dk_0 a_Mo_tick_48 (dko_5 _)
theorem d_Mo_tick_49 : decode b_Mo_tick 49 = .ok (.if_icmp .eq 11, 3) := dk_S2 a_Mo_tick_49 (dko_159 _) (by decide +kernel)
theorem d_Mo_tick_52 : decode b_Mo_tick 52 = .ok (.aload_n 0, 1) := dk_0 a_Mo_tick_52 (dko_42 _)
theorem d_Mo_tick_53 : decode b_Mo_tick 53 = .ok (.getfield 162, 3) := dk_U2 a_Mo_tick_53 (dko_180 _) rfl
theorem d_Mo_tick_56 : decode b_Mo_tick 56 = .ok (.iconst 3, 1) := dk_0 a_Mo_tick_56 (dko_6 _)
theorem d_Mo_tick_57 : decode b_Mo_tick 57 = .ok (.if_icmp .ne 7, 3) := dk_S2 a_Mo_tick_57 (dko_160 _) (by decide +kernel)
theorem d_Mo_tick_60 : decode b_Mo_tick 60 = .ok (.aload_n 0, 1) := dk_0 a_Mo_tick_60 (dko_42 _)
theorem d_Mo_tick_61 : decode b_Mo_tick 61 = .ok (.invokevirtual 231, 3) := dk_U2 a_Mo_tick_61 (dko_182 _) rfl
theorem d_Mo_tick_64 : decode b_Mo_tick 64 = .ok (.iconst 0, 1) := dk_0 a_Mo_tick_64 (dko_3 _)
theorem d_Mo_tick_65 : decode b_Mo_tick 65 = .ok (.istore 4, 2) := dk_U1 a_Mo_tick_65 (dko_54 _) rfl
theorem d_Mo_tick_67 : decode b_Mo_tick 67 = .ok (.iload 4, 2) := dk_U1 a_Mo_tick_67 (dko_21 _) rfl
theorem d_Mo_tick_69 : decode b_Mo_tick 69 = .ok (.aload_n 0, 1) := dk_0 a_Mo_tick_69 (dko_42 _)
theorem d_Mo_tick_70 : decode b_Mo_tick 70 = .ok (.getfield 284, 3) := dk_U2 a_Mo_tick_70 (dko_180 _) rfl
theorem d_Mo_tick_73 : decode b_Mo_tick 73 = .ok (.if_icmp .ge 15, 3) := dk_S2 a_Mo_tick_73 (dko_162 _) (by decide +kernel)
theorem d_Mo_tick_76 : decode b_Mo_tick 76 = .ok (.aload_n 0, 1) := dk_0 a_Mo_tick_76 (dko_42 _)
theorem d_Mo_tick_77 : decode b_Mo_tick 77 = .ok (.iload 4, 2) := dk_U1 a_Mo_tick_77 (dko_21 _) rfl
theorem d_Mo_tick_79 : decode b_Mo_tick 79 = .ok (.invokevirtual 569, 3) := dk_U2 a_Mo_tick_79 (dko_182 _) rfl
theorem d_Mo_tick_82 : decode b_Mo_tick 82 = .ok (.iinc 4 1, 3) := dk_US a_Mo_tick_82 (dko_132 _) (by decide +kernel)
theorem d_Mo_tick_85 : decode b_Mo_tick 85 = .ok (.goto (-18), 3) := dk_S2 a_Mo_tick_85 (dko_167 _) (by decide +kernel)
theorem d_Mo_tick_88 : decode b_Mo_tick 88 = .ok (.aload_n 0, 1) := dk_0 a_Mo_tick_88 (dko_42 _)
theorem d_Mo_tick_89 : decode b_Mo_tick 89 = .ok (.dup, 1) := dk_0 a_Mo_tick_89 (dko_89 _)
theorem d_Mo_tick_90 : decode b_Mo_tick 90 = .ok (.getfield 326, 3) := dk_U2 a_Mo_tick_90 (dko_180 _) rfl
theorem d_Mo_tick_93 : decode b_Mo_tick 93 = .ok (.iconst 1, 1) := dk_0 a_Mo_tick_93 (dko_4 _)
theorem d_Mo_tick_94 : decode b_Mo_tick 94 = .ok (.iadd, 1) := dk_0 a_Mo_tick_94 (dko_96 _)
theorem d_Mo_tick_95 : decode b_Mo_tick 95 = .ok (.putfield 326, 3) := dk_U2 a_Mo_tick_95 (dko_181 _) rfl
theorem d_Mo_tick_98 : decode b_Mo_tick 98 = .ok (.iinc 2 1, 3) := dk_US a_Mo_tick_98 (dko_132 _) (by decide +kernel)
theorem d_Mo_tick_101 : decode b_Mo_tick 101 = .ok (.goto (-86), 3) := dk_S2 a_Mo_tick_101 (dko_167 _) (by decide +kernel)
theorem d_Mo_tick_104 : decode b_Mo_tick 104 = .ok (.aload_n 0, 1) := dk_0 a_Mo_tick_104 (dko_42 _)
theorem d_Mo_tick_105 : decode b_Mo_tick 105 = .ok (.getfield 162, 3) := dk_U2 a_Mo_tick_105 (dko_180 _) rfl
theorem d_Mo_tick_108 : decode b_Mo_tick 108 = .ok (.ireturn, 1) := dk_0 a_Mo_tick_108 (dko_172 _)
set_option maxHeartbeats 4000000 in
set_option maxRecDepth 100000 in
theorem ok_Mo_tick (pc : Nat) : OpS mt mi_Mo_tick pc (cs_Mo_tick pc) := (os_n (os_n (os_n (os_n (os_n (os_l (so_iload_n d_Mo_tick_0 rfl)) (os_n (os_l (so_iflt d_Mo_tick_1 (by decide))) (os_l (so_iload_n d_Mo_tick_4 rfl)))) (os_n (os_n (os_l (so_sipush d_Mo_tick_5 (by decide))) (os_l (so_icle d_Mo_tick_8 (by decide)))) (os_n (os_l (so_iconst d_Mo_tick_11 (by decide))) (os_l (so_ireturn rfl d_Mo_tick_12))))) (os_n (os_n (os_l (so_iconst d_Mo_tick_13 (by decide))) (os_n (os_l (so_istore_n d_Mo_tick_14 rfl (by decide))) (os_l (so_iload_n d_Mo_tick_15 rfl)))) (os_n (os_n (os_l (so_iload_n d_Mo_tick_16 rfl)) (os_l (so_icge d_Mo_tick_17 (by decide)))) (os_n (os_l (so_aload_n d_Mo_tick_20 rfl)) (os_l (so_callV (iv := mi_Mo_senseAll) rfl rfl rfl mw_2603 mw_2605 sl_180 mw_18 mw_2606 ⟨by decide +kernel, by decide +kernel, by decide +kernel⟩ (by decide) d_Mo_tick_21)))))) (os_n (os_n (os_n (os_l (so_aload_n d_Mo_tick_24 rfl)) (os_n (os_l (so_get (C := R_Mo) (T := F_Mo) (N := 87) (j := 3) in_Mo rfl (by decide) mw_1797 d_Mo_tick_25)) (os_l (so_iconst d_Mo_tick_28 (by decide))))) (os_n (os_n (os_l (so_callV (iv := mi_Mr_tick) rfl rfl rfl mw_2613 mw_2614 mw_2615 mw_20 mw_2616 ⟨by decide +kernel, by decide +kernel, by decide +kernel⟩ (by decide) d_Mo_tick_29)) (os_l (so_istore_n d_Mo_tick_32 rfl (by decide)))) (os_n (os_l (so_aload_n d_Mo_tick_33 rfl)) (os_l (so_get (C := R_Mo) (T := F_Mo) (N := 87) (j := 59) in_Mo rfl (by decide) mw_1853 d_Mo_tick_34))))) (os_n (os_n (os_l (so_ifne d_Mo_tick_37 (by decide))) (os_n (os_l (so_aload_n d_Mo_tick_40 rfl)) (os_l (so_callV (iv := mi_Mo_walk) rfl rfl rfl mw_2619 mw_2621 sl_182 mw_18 mw_2622 ⟨by decide +kernel, by decide +kernel, by decide +kernel⟩ (by decide) d_Mo_tick_41)))) (os_n (os_n (os_l (so_aload_n d_Mo_tick_44 rfl)) (os_l (so_get (C := R_Mo) (T := F_Mo) (N := 87) (j := 59) in_Mo rfl (by decide) mw_1853 d_Mo_tick_45))) (os_n (os_l (so_iconst d_Mo_tick_48 (by decide))) (os_l (so_iceq d_Mo_tick_49 (by decide)))))))) (os_n (os_n (os_n (os_n (os_l (so_aload_n d_Mo_tick_52 rfl)) (os_n (os_l (so_get (C := R_Mo) (T := F_Mo) (N := 87) (j := 59) in_Mo rfl (by decide) mw_1853 d_Mo_tick_53)) (os_l (so_iconst d_Mo_tick_56 (by decide))))) (os_n (os_n (os_l (so_icne d_Mo_tick_57 (by decide))) (os_l (so_aload_n d_Mo_tick_60 rfl))) (os_n (os_l (so_callV (iv := mi_Mo_closeAll) rfl rfl rfl mw_2335 mw_2337 sl_139 mw_18 mw_2338 ⟨by decide +kernel, by decide +kernel, by decide +kernel⟩ (by decide) d_Mo_tick_61)) (os_l (so_iconst d_Mo_tick_64 (by decide)))))) (os_n (os_n (os_l (so_istore d_Mo_tick_65 (by decide))) (os_n (os_l (so_iload d_Mo_tick_67)) (os_l (so_aload_n d_Mo_tick_69 rfl)))) (os_n (os_n (os_l (so_get (C := R_Mo) (T := F_Mo) (N := 87) (j := 26) in_Mo rfl (by decide) mw_1820 d_Mo_tick_70)) (os_l (so_icge d_Mo_tick_73 (by decide)))) (os_n (os_l (so_aload_n d_Mo_tick_76 rfl)) (os_l (so_iload d_Mo_tick_77)))))) (os_n (os_n (os_n (os_l (so_callV (iv := mi_Mo_flow) rfl rfl rfl mw_2659 mw_2661 sl_192 mw_18 mw_2662 ⟨by decide +kernel, by decide +kernel, by decide +kernel⟩ (by decide) d_Mo_tick_79)) (os_n (os_l (so_iinc d_Mo_tick_82 (by decide) (by decide))) (os_l (so_goto d_Mo_tick_85 (by decide))))) (os_n (os_n (os_l (so_aload_n d_Mo_tick_88 rfl)) (os_l (so_dup d_Mo_tick_89))) (os_n (os_l (so_get (C := R_Mo) (T := F_Mo) (N := 87) (j := 78) in_Mo rfl (by decide) mw_1872 d_Mo_tick_90)) (os_l (so_iconst d_Mo_tick_93 (by decide)))))) (os_n (os_n (os_l (so_iadd d_Mo_tick_94)) (os_n (os_l (so_putI (C := R_Mo) (T := F_Mo) (N := 87) (j := 78) in_Mo t_Mo_ok n_Mo rfl (by decide) mw_1872 rfl (by decide +kernel) d_Mo_tick_95)) (os_l (so_iinc d_Mo_tick_98 (by decide) (by decide))))) (os_n (os_n (os_l (so_goto d_Mo_tick_101 (by decide))) (os_l (so_aload_n d_Mo_tick_104 rfl))) (os_n (os_l (so_get (C := R_Mo) (T := F_Mo) (N := 87) (j := 59) in_Mo rfl (by decide) mw_1853 d_Mo_tick_105)) (os_l (so_ireturn rfl d_Mo_tick_108))))))))
abbrev t_Mo_stillAt_245 : List UInt8 := 172 :: []
abbrev t_Mo_stillAt_244 : List UInt8 := 2 :: t_Mo_stillAt_245
abbrev t_Mo_stillAt_241 : List UInt8 := 167 :: 0 :: 4 :: t_Mo_stillAt_244
abbrev t_Mo_stillAt_240 : List UInt8 := 27 :: t_Mo_stillAt_241
abbrev t_Mo_stillAt_237 : List UInt8 := 156 :: 0 :: 7 :: t_Mo_stillAt_240
abbrev t_Mo_stillAt_234 : List UInt8 := 180 :: 2 :: 64 :: t_Mo_stillAt_237
abbrev t_Mo_stillAt_233 : List UInt8 := 42 :: t_Mo_stillAt_234
abbrev t_Mo_stillAt_230 : List UInt8 := 153 :: 0 :: 14 :: t_Mo_stillAt_233
abbrev t_Mo_stillAt_228 : List UInt8 := 21 :: 4 :: t_Mo_stillAt_230
abbrev t_Mo_stillAt_225 : List UInt8 := 181 :: 2 :: 64 :: t_Mo_stillAt_228
abbrev t_Mo_stillAt_224 : List UInt8 := 100 :: t_Mo_stillAt_225
abbrev t_Mo_stillAt_223 : List UInt8 := 3 :: t_Mo_stillAt_224
abbrev t_Mo_stillAt_220 : List UInt8 := 167 :: 0 :: 4 :: t_Mo_stillAt_223
abbrev t_Mo_stillAt_219 : List UInt8 := 4 :: t_Mo_stillAt_220
abbrev t_Mo_stillAt_216 : List UInt8 := 153 :: 0 :: 7 :: t_Mo_stillAt_219
abbrev t_Mo_stillAt_214 : List UInt8 := 21 :: 4 :: t_Mo_stillAt_216
abbrev t_Mo_stillAt_211 : List UInt8 := 180 :: 2 :: 64 :: t_Mo_stillAt_214
abbrev t_Mo_stillAt_210 : List UInt8 := 89 :: t_Mo_stillAt_211
abbrev t_Mo_stillAt_209 : List UInt8 := 42 :: t_Mo_stillAt_210
abbrev t_Mo_stillAt_207 : List UInt8 := 54 :: 4 :: t_Mo_stillAt_209
abbrev t_Mo_stillAt_206 : List UInt8 := 3 :: t_Mo_stillAt_207
abbrev t_Mo_stillAt_203 : List UInt8 := 167 :: 0 :: 4 :: t_Mo_stillAt_206
abbrev t_Mo_stillAt_202 : List UInt8 := 4 :: t_Mo_stillAt_203
abbrev t_Mo_stillAt_199 : List UInt8 := 160 :: 0 :: 7 :: t_Mo_stillAt_202
abbrev t_Mo_stillAt_197 : List UInt8 := 16 :: 18 :: t_Mo_stillAt_199
abbrev t_Mo_stillAt_196 : List UInt8 := 29 :: t_Mo_stillAt_197
abbrev t_Mo_stillAt_193 : List UInt8 := 159 :: 0 :: 9 :: t_Mo_stillAt_196
abbrev t_Mo_stillAt_191 : List UInt8 := 16 :: 13 :: t_Mo_stillAt_193
abbrev t_Mo_stillAt_190 : List UInt8 := 29 :: t_Mo_stillAt_191
abbrev t_Mo_stillAt_187 : List UInt8 := 159 :: 0 :: 15 :: t_Mo_stillAt_190
abbrev t_Mo_stillAt_185 : List UInt8 := 16 :: 12 :: t_Mo_stillAt_187
abbrev t_Mo_stillAt_184 : List UInt8 := 29 :: t_Mo_stillAt_185
abbrev t_Mo_stillAt_181 : List UInt8 := 159 :: 0 :: 21 :: t_Mo_stillAt_184
abbrev t_Mo_stillAt_179 : List UInt8 := 16 :: 11 :: t_Mo_stillAt_181
abbrev t_Mo_stillAt_178 : List UInt8 := 29 :: t_Mo_stillAt_179
abbrev t_Mo_stillAt_175 : List UInt8 := 167 :: 0 :: 32 :: t_Mo_stillAt_178
abbrev t_Mo_stillAt_174 : List UInt8 := 3 :: t_Mo_stillAt_175
abbrev t_Mo_stillAt_171 : List UInt8 := 167 :: 0 :: 36 :: t_Mo_stillAt_174
abbrev t_Mo_stillAt_170 : List UInt8 := 4 :: t_Mo_stillAt_171
abbrev t_Mo_stillAt_167 : List UInt8 := 154 :: 0 :: 7 :: t_Mo_stillAt_170
abbrev t_Mo_stillAt_166 : List UInt8 := 51 :: t_Mo_stillAt_167
abbrev t_Mo_stillAt_165 : List UInt8 := 27 :: t_Mo_stillAt_166
abbrev t_Mo_stillAt_162 : List UInt8 := 180 :: 0 :: 178 :: t_Mo_stillAt_165
abbrev t_Mo_stillAt_161 : List UInt8 := 42 :: t_Mo_stillAt_162
abbrev t_Mo_stillAt_158 : List UInt8 := 160 :: 0 :: 16 :: t_Mo_stillAt_161
abbrev t_Mo_stillAt_156 : List UInt8 := 16 :: 18 :: t_Mo_stillAt_158
abbrev t_Mo_stillAt_155 : List UInt8 := 29 :: t_Mo_stillAt_156
abbrev t_Mo_stillAt_152 : List UInt8 := 153 :: 0 :: 26 :: t_Mo_stillAt_155
abbrev t_Mo_stillAt_151 : List UInt8 := 28 :: t_Mo_stillAt_152
abbrev t_Mo_stillAt_150 : List UInt8 := 172 :: t_Mo_stillAt_151
abbrev t_Mo_stillAt_147 : List UInt8 := 182 :: 2 :: 60 :: t_Mo_stillAt_150
abbrev t_Mo_stillAt_146 : List UInt8 := 28 :: t_Mo_stillAt_147
abbrev t_Mo_stillAt_145 : List UInt8 := 46 :: t_Mo_stillAt_146
abbrev t_Mo_stillAt_144 : List UInt8 := 27 :: t_Mo_stillAt_145
abbrev t_Mo_stillAt_141 : List UInt8 := 180 :: 0 :: 184 :: t_Mo_stillAt_144
abbrev t_Mo_stillAt_140 : List UInt8 := 42 :: t_Mo_stillAt_141
abbrev t_Mo_stillAt_139 : List UInt8 := 42 :: t_Mo_stillAt_140
abbrev t_Mo_stillAt_136 : List UInt8 := 167 :: 0 :: 14 :: t_Mo_stillAt_139
abbrev t_Mo_stillAt_135 : List UInt8 := 2 :: t_Mo_stillAt_136
abbrev t_Mo_stillAt_132 : List UInt8 := 160 :: 0 :: 7 :: t_Mo_stillAt_135
abbrev t_Mo_stillAt_131 : List UInt8 := 2 :: t_Mo_stillAt_132
abbrev t_Mo_stillAt_130 : List UInt8 := 46 :: t_Mo_stillAt_131
abbrev t_Mo_stillAt_129 : List UInt8 := 27 :: t_Mo_stillAt_130
abbrev t_Mo_stillAt_126 : List UInt8 := 180 :: 0 :: 184 :: t_Mo_stillAt_129
abbrev t_Mo_stillAt_125 : List UInt8 := 42 :: t_Mo_stillAt_126
abbrev t_Mo_stillAt_122 : List UInt8 := 160 :: 0 :: 29 :: t_Mo_stillAt_125
abbrev t_Mo_stillAt_120 : List UInt8 := 16 :: 17 :: t_Mo_stillAt_122
abbrev t_Mo_stillAt_119 : List UInt8 := 29 :: t_Mo_stillAt_120
abbrev t_Mo_stillAt_116 : List UInt8 := 159 :: 0 :: 9 :: t_Mo_stillAt_119
abbrev t_Mo_stillAt_114 : List UInt8 := 16 :: 19 :: t_Mo_stillAt_116
abbrev t_Mo_stillAt_113 : List UInt8 := 29 :: t_Mo_stillAt_114
abbrev t_Mo_stillAt_110 : List UInt8 := 159 :: 0 :: 15 :: t_Mo_stillAt_113
abbrev t_Mo_stillAt_108 : List UInt8 := 16 :: 15 :: t_Mo_stillAt_110
abbrev t_Mo_stillAt_107 : List UInt8 := 29 :: t_Mo_stillAt_108
abbrev t_Mo_stillAt_104 : List UInt8 := 159 :: 0 :: 21 :: t_Mo_stillAt_107
abbrev t_Mo_stillAt_102 : List UInt8 := 16 :: 23 :: t_Mo_stillAt_104
abbrev t_Mo_stillAt_101 : List UInt8 := 29 :: t_Mo_stillAt_102
abbrev t_Mo_stillAt_100 : List UInt8 := 172 :: t_Mo_stillAt_101
abbrev t_Mo_stillAt_97 : List UInt8 := 182 :: 2 :: 60 :: t_Mo_stillAt_100
abbrev t_Mo_stillAt_96 : List UInt8 := 28 :: t_Mo_stillAt_97
abbrev t_Mo_stillAt_95 : List UInt8 := 46 :: t_Mo_stillAt_96
abbrev t_Mo_stillAt_94 : List UInt8 := 27 :: t_Mo_stillAt_95
abbrev t_Mo_stillAt_91 : List UInt8 := 180 :: 0 :: 169 :: t_Mo_stillAt_94
abbrev t_Mo_stillAt_90 : List UInt8 := 42 :: t_Mo_stillAt_91
abbrev t_Mo_stillAt_89 : List UInt8 := 42 :: t_Mo_stillAt_90
abbrev t_Mo_stillAt_86 : List UInt8 := 160 :: 0 :: 15 :: t_Mo_stillAt_89
abbrev t_Mo_stillAt_84 : List UInt8 := 16 :: 16 :: t_Mo_stillAt_86
abbrev t_Mo_stillAt_83 : List UInt8 := 29 :: t_Mo_stillAt_84
abbrev t_Mo_stillAt_82 : List UInt8 := 172 :: t_Mo_stillAt_83
abbrev t_Mo_stillAt_81 : List UInt8 := 2 :: t_Mo_stillAt_82
abbrev t_Mo_stillAt_78 : List UInt8 := 167 :: 255 :: 209 :: t_Mo_stillAt_81
abbrev t_Mo_stillAt_76 : List UInt8 := 54 :: 4 :: t_Mo_stillAt_78
abbrev t_Mo_stillAt_75 : List UInt8 := 46 :: t_Mo_stillAt_76
abbrev t_Mo_stillAt_73 : List UInt8 := 21 :: 4 :: t_Mo_stillAt_75
abbrev t_Mo_stillAt_70 : List UInt8 := 180 :: 0 :: 172 :: t_Mo_stillAt_73
abbrev t_Mo_stillAt_69 : List UInt8 := 42 :: t_Mo_stillAt_70
abbrev t_Mo_stillAt_68 : List UInt8 := 172 :: t_Mo_stillAt_69
abbrev t_Mo_stillAt_66 : List UInt8 := 21 :: 5 :: t_Mo_stillAt_68
abbrev t_Mo_stillAt_63 : List UInt8 := 159 :: 0 :: 6 :: t_Mo_stillAt_66
abbrev t_Mo_stillAt_62 : List UInt8 := 2 :: t_Mo_stillAt_63
abbrev t_Mo_stillAt_60 : List UInt8 := 21 :: 5 :: t_Mo_stillAt_62
abbrev t_Mo_stillAt_58 : List UInt8 := 54 :: 5 :: t_Mo_stillAt_60
abbrev t_Mo_stillAt_55 : List UInt8 := 182 :: 2 :: 60 :: t_Mo_stillAt_58
abbrev t_Mo_stillAt_54 : List UInt8 := 28 :: t_Mo_stillAt_55
abbrev t_Mo_stillAt_52 : List UInt8 := 21 :: 4 :: t_Mo_stillAt_54
abbrev t_Mo_stillAt_51 : List UInt8 := 42 :: t_Mo_stillAt_52
abbrev t_Mo_stillAt_48 : List UInt8 := 167 :: 0 :: 10 :: t_Mo_stillAt_51
abbrev t_Mo_stillAt_47 : List UInt8 := 2 :: t_Mo_stillAt_48
abbrev t_Mo_stillAt_44 : List UInt8 := 153 :: 0 :: 7 :: t_Mo_stillAt_47
abbrev t_Mo_stillAt_43 : List UInt8 := 51 :: t_Mo_stillAt_44
abbrev t_Mo_stillAt_41 : List UInt8 := 21 :: 4 :: t_Mo_stillAt_43
abbrev t_Mo_stillAt_38 : List UInt8 := 180 :: 0 :: 181 :: t_Mo_stillAt_41
abbrev t_Mo_stillAt_37 : List UInt8 := 42 :: t_Mo_stillAt_38
abbrev t_Mo_stillAt_34 : List UInt8 := 159 :: 0 :: 47 :: t_Mo_stillAt_37
abbrev t_Mo_stillAt_33 : List UInt8 := 2 :: t_Mo_stillAt_34
abbrev t_Mo_stillAt_31 : List UInt8 := 21 :: 4 :: t_Mo_stillAt_33
abbrev t_Mo_stillAt_29 : List UInt8 := 54 :: 4 :: t_Mo_stillAt_31
abbrev t_Mo_stillAt_28 : List UInt8 := 46 :: t_Mo_stillAt_29
abbrev t_Mo_stillAt_27 : List UInt8 := 27 :: t_Mo_stillAt_28
abbrev t_Mo_stillAt_24 : List UInt8 := 180 :: 0 :: 169 :: t_Mo_stillAt_27
abbrev t_Mo_stillAt_23 : List UInt8 := 42 :: t_Mo_stillAt_24
abbrev t_Mo_stillAt_20 : List UInt8 := 160 :: 0 :: 63 :: t_Mo_stillAt_23
abbrev t_Mo_stillAt_18 : List UInt8 := 16 :: 14 :: t_Mo_stillAt_20
abbrev t_Mo_stillAt_17 : List UInt8 := 29 :: t_Mo_stillAt_18
abbrev t_Mo_stillAt_16 : List UInt8 := 62 :: t_Mo_stillAt_17
abbrev t_Mo_stillAt_13 : List UInt8 := 182 :: 2 :: 14 :: t_Mo_stillAt_16
abbrev t_Mo_stillAt_12 : List UInt8 := 27 :: t_Mo_stillAt_13
abbrev t_Mo_stillAt_11 : List UInt8 := 42 :: t_Mo_stillAt_12
abbrev t_Mo_stillAt_10 : List UInt8 := 172 :: t_Mo_stillAt_11
abbrev t_Mo_stillAt_9 : List UInt8 := 2 :: t_Mo_stillAt_10
abbrev t_Mo_stillAt_6 : List UInt8 := 154 :: 0 :: 5 :: t_Mo_stillAt_9
abbrev t_Mo_stillAt_5 : List UInt8 := 51 :: t_Mo_stillAt_6
abbrev t_Mo_stillAt_4 : List UInt8 := 27 :: t_Mo_stillAt_5
abbrev t_Mo_stillAt_1 : List UInt8 := 180 :: 0 :: 175 :: t_Mo_stillAt_4
abbrev t_Mo_stillAt_0 : List UInt8 := 42 :: t_Mo_stillAt_1
theorem a_Mo_stillAt_0 : dk_at b_Mo_stillAt 0 t_Mo_stillAt_0 := dk_start (by decide +kernel)
theorem a_Mo_stillAt_1 : dk_at b_Mo_stillAt 1 t_Mo_stillAt_1 := dk_go 1 a_Mo_stillAt_0 rfl
theorem a_Mo_stillAt_4 : dk_at b_Mo_stillAt 4 t_Mo_stillAt_4 := dk_go 3 a_Mo_stillAt_1 rfl
theorem a_Mo_stillAt_5 : dk_at b_Mo_stillAt 5 t_Mo_stillAt_5 := dk_go 1 a_Mo_stillAt_4 rfl
theorem a_Mo_stillAt_6 : dk_at b_Mo_stillAt 6 t_Mo_stillAt_6 := dk_go 1 a_Mo_stillAt_5 rfl
theorem a_Mo_stillAt_9 : dk_at b_Mo_stillAt 9 t_Mo_stillAt_9 := dk_go 3 a_Mo_stillAt_6 rfl
theorem a_Mo_stillAt_10 : dk_at b_Mo_stillAt 10 t_Mo_stillAt_10 := dk_go 1 a_Mo_stillAt_9 rfl
theorem a_Mo_stillAt_11 : dk_at b_Mo_stillAt 11 t_Mo_stillAt_11 := dk_go 1 a_Mo_stillAt_10 rfl
theorem a_Mo_stillAt_12 : dk_at b_Mo_stillAt 12 t_Mo_stillAt_12 := dk_go 1 a_Mo_stillAt_11 rfl
theorem a_Mo_stillAt_13 : dk_at b_Mo_stillAt 13 t_Mo_stillAt_13 := dk_go 1 a_Mo_stillAt_12 rfl
theorem a_Mo_stillAt_16 : dk_at b_Mo_stillAt 16 t_Mo_stillAt_16 := dk_go 3 a_Mo_stillAt_13 rfl
theorem a_Mo_stillAt_17 : dk_at b_Mo_stillAt 17 t_Mo_stillAt_17 := dk_go 1 a_Mo_stillAt_16 rfl
theorem a_Mo_stillAt_18 : dk_at b_Mo_stillAt 18 t_Mo_stillAt_18 := dk_go 1 a_Mo_stillAt_17 rfl
theorem a_Mo_stillAt_20 : dk_at b_Mo_stillAt 20 t_Mo_stillAt_20 := dk_go 2 a_Mo_stillAt_18 rfl
theorem a_Mo_stillAt_23 : dk_at b_Mo_stillAt 23 t_Mo_stillAt_23 := dk_go 3 a_Mo_stillAt_20 rfl
theorem a_Mo_stillAt_24 : dk_at b_Mo_stillAt 24 t_Mo_stillAt_24 := dk_go 1 a_Mo_stillAt_23 rfl
theorem a_Mo_stillAt_27 : dk_at b_Mo_stillAt 27 t_Mo_stillAt_27 := dk_go 3 a_Mo_stillAt_24 rfl
theorem a_Mo_stillAt_28 : dk_at b_Mo_stillAt 28 t_Mo_stillAt_28 := dk_go 1 a_Mo_stillAt_27 rfl
theorem a_Mo_stillAt_29 : dk_at b_Mo_stillAt 29 t_Mo_stillAt_29 := dk_go 1 a_Mo_stillAt_28 rfl
theorem a_Mo_stillAt_31 : dk_at b_Mo_stillAt 31 t_Mo_stillAt_31 := dk_go 2 a_Mo_stillAt_29 rfl
theorem a_Mo_stillAt_33 : dk_at b_Mo_stillAt 33 t_Mo_stillAt_33 := dk_go 2 a_Mo_stillAt_31 rfl
theorem a_Mo_stillAt_34 : dk_at b_Mo_stillAt 34 t_Mo_stillAt_34 := dk_go 1 a_Mo_stillAt_33 rfl
theorem a_Mo_stillAt_37 : dk_at b_Mo_stillAt 37 t_Mo_stillAt_37 := dk_go 3 a_Mo_stillAt_34 rfl
theorem a_Mo_stillAt_38 : dk_at b_Mo_stillAt 38 t_Mo_stillAt_38 := dk_go 1 a_Mo_stillAt_37 rfl
theorem a_Mo_stillAt_41 : dk_at b_Mo_stillAt 41 t_Mo_stillAt_41 := dk_go 3 a_Mo_stillAt_38 rfl
theorem a_Mo_stillAt_43 : dk_at b_Mo_stillAt 43 t_Mo_stillAt_43 := dk_go 2 a_Mo_stillAt_41 rfl
theorem a_Mo_stillAt_44 : dk_at b_Mo_stillAt 44 t_Mo_stillAt_44 := dk_go 1 a_Mo_stillAt_43 rfl
theorem a_Mo_stillAt_47 : dk_at b_Mo_stillAt 47 t_Mo_stillAt_47 := dk_go 3 a_Mo_stillAt_44 rfl
theorem a_Mo_stillAt_48 : dk_at b_Mo_stillAt 48 t_Mo_stillAt_48 := dk_go 1 a_Mo_stillAt_47 rfl
theorem a_Mo_stillAt_51 : dk_at b_Mo_stillAt 51 t_Mo_stillAt_51 := dk_go 3 a_Mo_stillAt_48 rfl
theorem a_Mo_stillAt_52 : dk_at b_Mo_stillAt 52 t_Mo_stillAt_52 := dk_go 1 a_Mo_stillAt_51 rfl
theorem a_Mo_stillAt_54 : dk_at b_Mo_stillAt 54 t_Mo_stillAt_54 := dk_go 2 a_Mo_stillAt_52 rfl
theorem a_Mo_stillAt_55 : dk_at b_Mo_stillAt 55 t_Mo_stillAt_55 := dk_go 1 a_Mo_stillAt_54 rfl
theorem a_Mo_stillAt_58 : dk_at b_Mo_stillAt 58 t_Mo_stillAt_58 := dk_go 3 a_Mo_stillAt_55 rfl
theorem a_Mo_stillAt_60 : dk_at b_Mo_stillAt 60 t_Mo_stillAt_60 := dk_go 2 a_Mo_stillAt_58 rfl
theorem a_Mo_stillAt_62 : dk_at b_Mo_stillAt 62 t_Mo_stillAt_62 := dk_go 2 a_Mo_stillAt_60 rfl
theorem a_Mo_stillAt_63 : dk_at b_Mo_stillAt 63 t_Mo_stillAt_63 := dk_go 1 a_Mo_stillAt_62 rfl
theorem a_Mo_stillAt_66 : dk_at b_Mo_stillAt 66 t_Mo_stillAt_66 := dk_go 3 a_Mo_stillAt_63 rfl
theorem a_Mo_stillAt_68 : dk_at b_Mo_stillAt 68 t_Mo_stillAt_68 := dk_go 2 a_Mo_stillAt_66 rfl
theorem a_Mo_stillAt_69 : dk_at b_Mo_stillAt 69 t_Mo_stillAt_69 := dk_go 1 a_Mo_stillAt_68 rfl
theorem a_Mo_stillAt_70 : dk_at b_Mo_stillAt 70 t_Mo_stillAt_70 := dk_go 1 a_Mo_stillAt_69 rfl
theorem a_Mo_stillAt_73 : dk_at b_Mo_stillAt 73 t_Mo_stillAt_73 := dk_go 3 a_Mo_stillAt_70 rfl
theorem a_Mo_stillAt_75 : dk_at b_Mo_stillAt 75 t_Mo_stillAt_75 := dk_go 2 a_Mo_stillAt_73 rfl
theorem a_Mo_stillAt_76 : dk_at b_Mo_stillAt 76 t_Mo_stillAt_76 := dk_go 1 a_Mo_stillAt_75 rfl
theorem a_Mo_stillAt_78 : dk_at b_Mo_stillAt 78 t_Mo_stillAt_78 := dk_go 2 a_Mo_stillAt_76 rfl
theorem a_Mo_stillAt_81 : dk_at b_Mo_stillAt 81 t_Mo_stillAt_81 := dk_go 3 a_Mo_stillAt_78 rfl
theorem a_Mo_stillAt_82 : dk_at b_Mo_stillAt 82 t_Mo_stillAt_82 := dk_go 1 a_Mo_stillAt_81 rfl
theorem a_Mo_stillAt_83 : dk_at b_Mo_stillAt 83 t_Mo_stillAt_83 := dk_go 1 a_Mo_stillAt_82 rfl
theorem a_Mo_stillAt_84 : dk_at b_Mo_stillAt 84 t_Mo_stillAt_84 := dk_go 1 a_Mo_stillAt_83 rfl
theorem a_Mo_stillAt_86 : dk_at b_Mo_stillAt 86 t_Mo_stillAt_86 := dk_go 2 a_Mo_stillAt_84 rfl
theorem a_Mo_stillAt_89 : dk_at b_Mo_stillAt 89 t_Mo_stillAt_89 := dk_go 3 a_Mo_stillAt_86 rfl
theorem a_Mo_stillAt_90 : dk_at b_Mo_stillAt 90 t_Mo_stillAt_90 := dk_go 1 a_Mo_stillAt_89 rfl
theorem a_Mo_stillAt_91 : dk_at b_Mo_stillAt 91 t_Mo_stillAt_91 := dk_go 1 a_Mo_stillAt_90 rfl
theorem a_Mo_stillAt_94 : dk_at b_Mo_stillAt 94 t_Mo_stillAt_94 := dk_go 3 a_Mo_stillAt_91 rfl
theorem a_Mo_stillAt_95 : dk_at b_Mo_stillAt 95 t_Mo_stillAt_95 := dk_go 1 a_Mo_stillAt_94 rfl
theorem a_Mo_stillAt_96 : dk_at b_Mo_stillAt 96 t_Mo_stillAt_96 := dk_go 1 a_Mo_stillAt_95 rfl
theorem a_Mo_stillAt_97 : dk_at b_Mo_stillAt 97 t_Mo_stillAt_97 := dk_go 1 a_Mo_stillAt_96 rfl
theorem a_Mo_stillAt_100 : dk_at b_Mo_stillAt 100 t_Mo_stillAt_100 := dk_go 3 a_Mo_stillAt_97 rfl
theorem a_Mo_stillAt_101 : dk_at b_Mo_stillAt 101 t_Mo_stillAt_101 := dk_go 1 a_Mo_stillAt_100 rfl
theorem a_Mo_stillAt_102 : dk_at b_Mo_stillAt 102 t_Mo_stillAt_102 := dk_go 1 a_Mo_stillAt_101 rfl
theorem a_Mo_stillAt_104 : dk_at b_Mo_stillAt 104 t_Mo_stillAt_104 := dk_go 2 a_Mo_stillAt_102 rfl
theorem a_Mo_stillAt_107 : dk_at b_Mo_stillAt 107 t_Mo_stillAt_107 := dk_go 3 a_Mo_stillAt_104 rfl
theorem a_Mo_stillAt_108 : dk_at b_Mo_stillAt 108 t_Mo_stillAt_108 := dk_go 1 a_Mo_stillAt_107 rfl
theorem a_Mo_stillAt_110 : dk_at b_Mo_stillAt 110 t_Mo_stillAt_110 := dk_go 2 a_Mo_stillAt_108 rfl
theorem a_Mo_stillAt_113 : dk_at b_Mo_stillAt 113 t_Mo_stillAt_113 := dk_go 3 a_Mo_stillAt_110 rfl
theorem a_Mo_stillAt_114 : dk_at b_Mo_stillAt 114 t_Mo_stillAt_114 := dk_go 1 a_Mo_stillAt_113 rfl
theorem a_Mo_stillAt_116 : dk_at b_Mo_stillAt 116 t_Mo_stillAt_116 := dk_go 2 a_Mo_stillAt_114 rfl
theorem a_Mo_stillAt_119 : dk_at b_Mo_stillAt 119 t_Mo_stillAt_119 := dk_go 3 a_Mo_stillAt_116 rfl
theorem a_Mo_stillAt_120 : dk_at b_Mo_stillAt 120 t_Mo_stillAt_120 := dk_go 1 a_Mo_stillAt_119 rfl
theorem a_Mo_stillAt_122 : dk_at b_Mo_stillAt 122 t_Mo_stillAt_122 := dk_go 2 a_Mo_stillAt_120 rfl
theorem a_Mo_stillAt_125 : dk_at b_Mo_stillAt 125 t_Mo_stillAt_125 := dk_go 3 a_Mo_stillAt_122 rfl
theorem a_Mo_stillAt_126 : dk_at b_Mo_stillAt 126 t_Mo_stillAt_126 := dk_go 1 a_Mo_stillAt_125 rfl
theorem a_Mo_stillAt_129 : dk_at b_Mo_stillAt 129 t_Mo_stillAt_129 := dk_go 3 a_Mo_stillAt_126 rfl
theorem a_Mo_stillAt_130 : dk_at b_Mo_stillAt 130 t_Mo_stillAt_130 := dk_go 1 a_Mo_stillAt_129 rfl
theorem a_Mo_stillAt_131 : dk_at b_Mo_stillAt 131 t_Mo_stillAt_131 := dk_go 1 a_Mo_stillAt_130 rfl
theorem a_Mo_stillAt_132 : dk_at b_Mo_stillAt 132 t_Mo_stillAt_132 := dk_go 1 a_Mo_stillAt_131 rfl
theorem a_Mo_stillAt_135 : dk_at b_Mo_stillAt 135 t_Mo_stillAt_135 := dk_go 3 a_Mo_stillAt_132 rfl
theorem a_Mo_stillAt_136 : dk_at b_Mo_stillAt 136 t_Mo_stillAt_136 := dk_go 1 a_Mo_stillAt_135 rfl
theorem a_Mo_stillAt_139 : dk_at b_Mo_stillAt 139 t_Mo_stillAt_139 := dk_go 3 a_Mo_stillAt_136 rfl
theorem a_Mo_stillAt_140 : dk_at b_Mo_stillAt 140 t_Mo_stillAt_140 := dk_go 1 a_Mo_stillAt_139 rfl
theorem a_Mo_stillAt_141 : dk_at b_Mo_stillAt 141 t_Mo_stillAt_141 := dk_go 1 a_Mo_stillAt_140 rfl
theorem a_Mo_stillAt_144 : dk_at b_Mo_stillAt 144 t_Mo_stillAt_144 := dk_go 3 a_Mo_stillAt_141 rfl
theorem a_Mo_stillAt_145 : dk_at b_Mo_stillAt 145 t_Mo_stillAt_145 := dk_go 1 a_Mo_stillAt_144 rfl
theorem a_Mo_stillAt_146 : dk_at b_Mo_stillAt 146 t_Mo_stillAt_146 := dk_go 1 a_Mo_stillAt_145 rfl
theorem a_Mo_stillAt_147 : dk_at b_Mo_stillAt 147 t_Mo_stillAt_147 := dk_go 1 a_Mo_stillAt_146 rfl
theorem a_Mo_stillAt_150 : dk_at b_Mo_stillAt 150 t_Mo_stillAt_150 := dk_go 3 a_Mo_stillAt_147 rfl
theorem a_Mo_stillAt_151 : dk_at b_Mo_stillAt 151 t_Mo_stillAt_151 := dk_go 1 a_Mo_stillAt_150 rfl
theorem a_Mo_stillAt_152 : dk_at b_Mo_stillAt 152 t_Mo_stillAt_152 := dk_go 1 a_Mo_stillAt_151 rfl
theorem a_Mo_stillAt_155 : dk_at b_Mo_stillAt 155 t_Mo_stillAt_155 := dk_go 3 a_Mo_stillAt_152 rfl
theorem a_Mo_stillAt_156 : dk_at b_Mo_stillAt 156 t_Mo_stillAt_156 := dk_go 1 a_Mo_stillAt_155 rfl
theorem a_Mo_stillAt_158 : dk_at b_Mo_stillAt 158 t_Mo_stillAt_158 := dk_go 2 a_Mo_stillAt_156 rfl
theorem a_Mo_stillAt_161 : dk_at b_Mo_stillAt 161 t_Mo_stillAt_161 := dk_go 3 a_Mo_stillAt_158 rfl
theorem a_Mo_stillAt_162 : dk_at b_Mo_stillAt 162 t_Mo_stillAt_162 := dk_go 1 a_Mo_stillAt_161 rfl
theorem a_Mo_stillAt_165 : dk_at b_Mo_stillAt 165 t_Mo_stillAt_165 := dk_go 3 a_Mo_stillAt_162 rfl
theorem a_Mo_stillAt_166 : dk_at b_Mo_stillAt 166 t_Mo_stillAt_166 := dk_go 1 a_Mo_stillAt_165 rfl
theorem a_Mo_stillAt_167 : dk_at b_Mo_stillAt 167 t_Mo_stillAt_167 := dk_go 1 a_Mo_stillAt_166 rfl
theorem a_Mo_stillAt_170 : dk_at b_Mo_stillAt 170 t_Mo_stillAt_170 := dk_go 3 a_Mo_stillAt_167 rfl
theorem a_Mo_stillAt_171 : dk_at b_Mo_stillAt 171 t_Mo_stillAt_171 := dk_go 1 a_Mo_stillAt_170 rfl
theorem a_Mo_stillAt_174 : dk_at b_Mo_stillAt 174 t_Mo_stillAt_174 := dk_go 3 a_Mo_stillAt_171 rfl
theorem a_Mo_stillAt_175 : dk_at b_Mo_stillAt 175 t_Mo_stillAt_175 := dk_go 1 a_Mo_stillAt_174 rfl
theorem a_Mo_stillAt_178 : dk_at b_Mo_stillAt 178 t_Mo_stillAt_178 := dk_go 3 a_Mo_stillAt_175 rfl
theorem a_Mo_stillAt_179 : dk_at b_Mo_stillAt 179 t_Mo_stillAt_179 := dk_go 1 a_Mo_stillAt_178 rfl
theorem a_Mo_stillAt_181 : dk_at b_Mo_stillAt 181 t_Mo_stillAt_181 := dk_go 2 a_Mo_stillAt_179 rfl
theorem a_Mo_stillAt_184 : dk_at b_Mo_stillAt 184 t_Mo_stillAt_184 := dk_go 3 a_Mo_stillAt_181 rfl
theorem a_Mo_stillAt_185 : dk_at b_Mo_stillAt 185 t_Mo_stillAt_185 := dk_go 1 a_Mo_stillAt_184 rfl
theorem a_Mo_stillAt_187 : dk_at b_Mo_stillAt 187 t_Mo_stillAt_187 := dk_go 2 a_Mo_stillAt_185 rfl
theorem a_Mo_stillAt_190 : dk_at b_Mo_stillAt 190 t_Mo_stillAt_190 := dk_go 3 a_Mo_stillAt_187 rfl
theorem a_Mo_stillAt_191 : dk_at b_Mo_stillAt 191 t_Mo_stillAt_191 := dk_go 1 a_Mo_stillAt_190 rfl
theorem a_Mo_stillAt_193 : dk_at b_Mo_stillAt 193 t_Mo_stillAt_193 := dk_go 2 a_Mo_stillAt_191 rfl
theorem a_Mo_stillAt_196 : dk_at b_Mo_stillAt 196 t_Mo_stillAt_196 := dk_go 3 a_Mo_stillAt_193 rfl
theorem a_Mo_stillAt_197 : dk_at b_Mo_stillAt 197 t_Mo_stillAt_197 := dk_go 1 a_Mo_stillAt_196 rfl
theorem a_Mo_stillAt_199 : dk_at b_Mo_stillAt 199 t_Mo_stillAt_199 := dk_go 2 a_Mo_stillAt_197 rfl
theorem a_Mo_stillAt_202 : dk_at b_Mo_stillAt 202 t_Mo_stillAt_202 := dk_go 3 a_Mo_stillAt_199 rfl
theorem a_Mo_stillAt_203 : dk_at b_Mo_stillAt 203 t_Mo_stillAt_203 := dk_go 1 a_Mo_stillAt_202 rfl
theorem a_Mo_stillAt_206 : dk_at b_Mo_stillAt 206 t_Mo_stillAt_206 := dk_go 3 a_Mo_stillAt_203 rfl
theorem a_Mo_stillAt_207 : dk_at b_Mo_stillAt 207 t_Mo_stillAt_207 := dk_go 1 a_Mo_stillAt_206 rfl
theorem a_Mo_stillAt_209 : dk_at b_Mo_stillAt 209 t_Mo_stillAt_209 := dk_go 2 a_Mo_stillAt_207 rfl
theorem a_Mo_stillAt_210 : dk_at b_Mo_stillAt 210 t_Mo_stillAt_210 := dk_go 1 a_Mo_stillAt_209 rfl
theorem a_Mo_stillAt_211 : dk_at b_Mo_stillAt 211 t_Mo_stillAt_211 := dk_go 1 a_Mo_stillAt_210 rfl
theorem a_Mo_stillAt_214 : dk_at b_Mo_stillAt 214 t_Mo_stillAt_214 := dk_go 3 a_Mo_stillAt_211 rfl
theorem a_Mo_stillAt_216 : dk_at b_Mo_stillAt 216 t_Mo_stillAt_216 := dk_go 2 a_Mo_stillAt_214 rfl
theorem a_Mo_stillAt_219 : dk_at b_Mo_stillAt 219 t_Mo_stillAt_219 := dk_go 3 a_Mo_stillAt_216 rfl
theorem a_Mo_stillAt_220 : dk_at b_Mo_stillAt 220 t_Mo_stillAt_220 := dk_go 1 a_Mo_stillAt_219 rfl
theorem a_Mo_stillAt_223 : dk_at b_Mo_stillAt 223 t_Mo_stillAt_223 := dk_go 3 a_Mo_stillAt_220 rfl
theorem a_Mo_stillAt_224 : dk_at b_Mo_stillAt 224 t_Mo_stillAt_224 := dk_go 1 a_Mo_stillAt_223 rfl
theorem a_Mo_stillAt_225 : dk_at b_Mo_stillAt 225 t_Mo_stillAt_225 := dk_go 1 a_Mo_stillAt_224 rfl
theorem a_Mo_stillAt_228 : dk_at b_Mo_stillAt 228 t_Mo_stillAt_228 := dk_go 3 a_Mo_stillAt_225 rfl
theorem a_Mo_stillAt_230 : dk_at b_Mo_stillAt 230 t_Mo_stillAt_230 := dk_go 2 a_Mo_stillAt_228 rfl
theorem a_Mo_stillAt_233 : dk_at b_Mo_stillAt 233 t_Mo_stillAt_233 := dk_go 3 a_Mo_stillAt_230 rfl
theorem a_Mo_stillAt_234 : dk_at b_Mo_stillAt 234 t_Mo_stillAt_234 := dk_go 1 a_Mo_stillAt_233 rfl
theorem a_Mo_stillAt_237 : dk_at b_Mo_stillAt 237 t_Mo_stillAt_237 := dk_go 3 a_Mo_stillAt_234 rfl
theorem a_Mo_stillAt_240 : dk_at b_Mo_stillAt 240 t_Mo_stillAt_240 := dk_go 3 a_Mo_stillAt_237 rfl
theorem a_Mo_stillAt_241 : dk_at b_Mo_stillAt 241 t_Mo_stillAt_241 := dk_go 1 a_Mo_stillAt_240 rfl
theorem a_Mo_stillAt_244 : dk_at b_Mo_stillAt 244 t_Mo_stillAt_244 := dk_go 3 a_Mo_stillAt_241 rfl
theorem a_Mo_stillAt_245 : dk_at b_Mo_stillAt 245 t_Mo_stillAt_245 := dk_go 1 a_Mo_stillAt_244 rfl
theorem d_Mo_stillAt_0 : decode b_Mo_stillAt 0 = .ok (.aload_n 0, 1) := dk_0 a_Mo_stillAt_0 (dko_42 _)
theorem d_Mo_stillAt_1 : decode b_Mo_stillAt 1 = .ok (.getfield 175, 3) := dk_U2 a_Mo_stillAt_1 (dko_180 _) rfl
theorem d_Mo_stillAt_4 : decode b_Mo_stillAt 4 = .ok (.iload_n 1, 1) := dk_0 a_Mo_stillAt_4 (dko_27 _)
theorem d_Mo_stillAt_5 : decode b_Mo_stillAt 5 = .ok (.baload, 1) := dk_0 a_Mo_stillAt_5 (dko_51 _)
theorem d_Mo_stillAt_6 : decode b_Mo_stillAt 6 = .ok (.ifCond .ne 5, 3) := dk_S2 a_Mo_stillAt_6 (dko_154 _) (by decide +kernel)
theorem d_Mo_stillAt_9 : decode b_Mo_stillAt 9 = .ok (.iconst (-1), 1) := dk_0 a_Mo_stillAt_9 (dko_2 _)
theorem d_Mo_stillAt_10 : decode b_Mo_stillAt 10 = .ok (.ireturn, 1) := dk_0 a_Mo_stillAt_10 (dko_172 _)
theorem d_Mo_stillAt_11 : decode b_Mo_stillAt 11 = .ok (.aload_n 0, 1) := dk_0 a_Mo_stillAt_11 (dko_42 _)
theorem d_Mo_stillAt_12 : decode b_Mo_stillAt 12 = .ok (.iload_n 1, 1) := dk_0 a_Mo_stillAt_12 (dko_27 _)
theorem d_Mo_stillAt_13 : decode b_Mo_stillAt 13 = .ok (.invokevirtual 526, 3) := dk_U2 a_Mo_stillAt_13 (dko_182 _) rfl
theorem d_Mo_stillAt_16 : decode b_Mo_stillAt 16 = .ok (.istore_n 3, 1) := dk_0 a_Mo_stillAt_16 (dko_62 _)
theorem d_Mo_stillAt_17 : decode b_Mo_stillAt 17 = .ok (.iload_n 3, 1) := dk_0 a_Mo_stillAt_17 (dko_29 _)
theorem d_Mo_stillAt_18 : decode b_Mo_stillAt 18 = .ok (.bipush 14, 2) := dk_S1 a_Mo_stillAt_18 (dko_16 _) (by decide +kernel)
theorem d_Mo_stillAt_20 : decode b_Mo_stillAt 20 = .ok (.if_icmp .ne 63, 3) := dk_S2 a_Mo_stillAt_20 (dko_160 _) (by decide +kernel)
theorem d_Mo_stillAt_23 : decode b_Mo_stillAt 23 = .ok (.aload_n 0, 1) := dk_0 a_Mo_stillAt_23 (dko_42 _)
theorem d_Mo_stillAt_24 : decode b_Mo_stillAt 24 = .ok (.getfield 169, 3) := dk_U2 a_Mo_stillAt_24 (dko_180 _) rfl
theorem d_Mo_stillAt_27 : decode b_Mo_stillAt 27 = .ok (.iload_n 1, 1) := dk_0 a_Mo_stillAt_27 (dko_27 _)
theorem d_Mo_stillAt_28 : decode b_Mo_stillAt 28 = .ok (.iaload, 1) := dk_0 a_Mo_stillAt_28 (dko_46 _)
theorem d_Mo_stillAt_29 : decode b_Mo_stillAt 29 = .ok (.istore 4, 2) := dk_U1 a_Mo_stillAt_29 (dko_54 _) rfl
theorem d_Mo_stillAt_31 : decode b_Mo_stillAt 31 = .ok (.iload 4, 2) := dk_U1 a_Mo_stillAt_31 (dko_21 _) rfl
theorem d_Mo_stillAt_33 : decode b_Mo_stillAt 33 = .ok (.iconst (-1), 1) := dk_0 a_Mo_stillAt_33 (dko_2 _)
theorem d_Mo_stillAt_34 : decode b_Mo_stillAt 34 = .ok (.if_icmp .eq 47, 3) := dk_S2 a_Mo_stillAt_34 (dko_159 _) (by decide +kernel)
theorem d_Mo_stillAt_37 : decode b_Mo_stillAt 37 = .ok (.aload_n 0, 1) := dk_0 a_Mo_stillAt_37 (dko_42 _)
theorem d_Mo_stillAt_38 : decode b_Mo_stillAt 38 = .ok (.getfield 181, 3) := dk_U2 a_Mo_stillAt_38 (dko_180 _) rfl
theorem d_Mo_stillAt_41 : decode b_Mo_stillAt 41 = .ok (.iload 4, 2) := dk_U1 a_Mo_stillAt_41 (dko_21 _) rfl
theorem d_Mo_stillAt_43 : decode b_Mo_stillAt 43 = .ok (.baload, 1) := dk_0 a_Mo_stillAt_43 (dko_51 _)
theorem d_Mo_stillAt_44 : decode b_Mo_stillAt 44 = .ok (.ifCond .eq 7, 3) := dk_S2 a_Mo_stillAt_44 (dko_153 _) (by decide +kernel)
theorem d_Mo_stillAt_47 : decode b_Mo_stillAt 47 = .ok (.iconst (-1), 1) := dk_0 a_Mo_stillAt_47 (dko_2 _)
theorem d_Mo_stillAt_48 : decode b_Mo_stillAt 48 = .ok (.goto 10, 3) := dk_S2 a_Mo_stillAt_48 (dko_167 _) (by decide +kernel)
theorem d_Mo_stillAt_51 : decode b_Mo_stillAt 51 = .ok (.aload_n 0, 1) := dk_0 a_Mo_stillAt_51 (dko_42 _)
theorem d_Mo_stillAt_52 : decode b_Mo_stillAt 52 = .ok (.iload 4, 2) := dk_U1 a_Mo_stillAt_52 (dko_21 _) rfl
theorem d_Mo_stillAt_54 : decode b_Mo_stillAt 54 = .ok (.iload_n 2, 1) := dk_0 a_Mo_stillAt_54 (dko_28 _)
theorem d_Mo_stillAt_55 : decode b_Mo_stillAt 55 = .ok (.invokevirtual 572, 3) := dk_U2 a_Mo_stillAt_55 (dko_182 _) rfl
theorem d_Mo_stillAt_58 : decode b_Mo_stillAt 58 = .ok (.istore 5, 2) := dk_U1 a_Mo_stillAt_58 (dko_54 _) rfl
theorem d_Mo_stillAt_60 : decode b_Mo_stillAt 60 = .ok (.iload 5, 2) := dk_U1 a_Mo_stillAt_60 (dko_21 _) rfl
theorem d_Mo_stillAt_62 : decode b_Mo_stillAt 62 = .ok (.iconst (-1), 1) := dk_0 a_Mo_stillAt_62 (dko_2 _)
theorem d_Mo_stillAt_63 : decode b_Mo_stillAt 63 = .ok (.if_icmp .eq 6, 3) := dk_S2 a_Mo_stillAt_63 (dko_159 _) (by decide +kernel)
theorem d_Mo_stillAt_66 : decode b_Mo_stillAt 66 = .ok (.iload 5, 2) := dk_U1 a_Mo_stillAt_66 (dko_21 _) rfl
theorem d_Mo_stillAt_68 : decode b_Mo_stillAt 68 = .ok (.ireturn, 1) := dk_0 a_Mo_stillAt_68 (dko_172 _)
theorem d_Mo_stillAt_69 : decode b_Mo_stillAt 69 = .ok (.aload_n 0, 1) := dk_0 a_Mo_stillAt_69 (dko_42 _)
theorem d_Mo_stillAt_70 : decode b_Mo_stillAt 70 = .ok (.getfield 172, 3) := dk_U2 a_Mo_stillAt_70 (dko_180 _) rfl
theorem d_Mo_stillAt_73 : decode b_Mo_stillAt 73 = .ok (.iload 4, 2) := dk_U1 a_Mo_stillAt_73 (dko_21 _) rfl
theorem d_Mo_stillAt_75 : decode b_Mo_stillAt 75 = .ok (.iaload, 1) := dk_0 a_Mo_stillAt_75 (dko_46 _)
theorem d_Mo_stillAt_76 : decode b_Mo_stillAt 76 = .ok (.istore 4, 2) := dk_U1 a_Mo_stillAt_76 (dko_54 _) rfl
theorem d_Mo_stillAt_78 : decode b_Mo_stillAt 78 = .ok (.goto (-47), 3) := dk_S2 a_Mo_stillAt_78 (dko_167 _) (by decide +kernel)
theorem d_Mo_stillAt_81 : decode b_Mo_stillAt 81 = .ok (.iconst (-1), 1) := dk_0 a_Mo_stillAt_81 (dko_2 _)
theorem d_Mo_stillAt_82 : decode b_Mo_stillAt 82 = .ok (.ireturn, 1) := dk_0 a_Mo_stillAt_82 (dko_172 _)
theorem d_Mo_stillAt_83 : decode b_Mo_stillAt 83 = .ok (.iload_n 3, 1) := dk_0 a_Mo_stillAt_83 (dko_29 _)
theorem d_Mo_stillAt_84 : decode b_Mo_stillAt 84 = .ok (.bipush 16, 2) := dk_S1 a_Mo_stillAt_84 (dko_16 _) (by decide +kernel)
theorem d_Mo_stillAt_86 : decode b_Mo_stillAt 86 = .ok (.if_icmp .ne 15, 3) := dk_S2 a_Mo_stillAt_86 (dko_160 _) (by decide +kernel)
theorem d_Mo_stillAt_89 : decode b_Mo_stillAt 89 = .ok (.aload_n 0, 1) := dk_0 a_Mo_stillAt_89 (dko_42 _)
theorem d_Mo_stillAt_90 : decode b_Mo_stillAt 90 = .ok (.aload_n 0, 1) := dk_0 a_Mo_stillAt_90 (dko_42 _)
theorem d_Mo_stillAt_91 : decode b_Mo_stillAt 91 = .ok (.getfield 169, 3) := dk_U2 a_Mo_stillAt_91 (dko_180 _) rfl
theorem d_Mo_stillAt_94 : decode b_Mo_stillAt 94 = .ok (.iload_n 1, 1) := dk_0 a_Mo_stillAt_94 (dko_27 _)
theorem d_Mo_stillAt_95 : decode b_Mo_stillAt 95 = .ok (.iaload, 1) := dk_0 a_Mo_stillAt_95 (dko_46 _)
theorem d_Mo_stillAt_96 : decode b_Mo_stillAt 96 = .ok (.iload_n 2, 1) := dk_0 a_Mo_stillAt_96 (dko_28 _)
theorem d_Mo_stillAt_97 : decode b_Mo_stillAt 97 = .ok (.invokevirtual 572, 3) := dk_U2 a_Mo_stillAt_97 (dko_182 _) rfl
theorem d_Mo_stillAt_100 : decode b_Mo_stillAt 100 = .ok (.ireturn, 1) := dk_0 a_Mo_stillAt_100 (dko_172 _)
theorem d_Mo_stillAt_101 : decode b_Mo_stillAt 101 = .ok (.iload_n 3, 1) := dk_0 a_Mo_stillAt_101 (dko_29 _)
theorem d_Mo_stillAt_102 : decode b_Mo_stillAt 102 = .ok (.bipush 23, 2) := dk_S1 a_Mo_stillAt_102 (dko_16 _) (by decide +kernel)
theorem d_Mo_stillAt_104 : decode b_Mo_stillAt 104 = .ok (.if_icmp .eq 21, 3) := dk_S2 a_Mo_stillAt_104 (dko_159 _) (by decide +kernel)
theorem d_Mo_stillAt_107 : decode b_Mo_stillAt 107 = .ok (.iload_n 3, 1) := dk_0 a_Mo_stillAt_107 (dko_29 _)
theorem d_Mo_stillAt_108 : decode b_Mo_stillAt 108 = .ok (.bipush 15, 2) := dk_S1 a_Mo_stillAt_108 (dko_16 _) (by decide +kernel)
theorem d_Mo_stillAt_110 : decode b_Mo_stillAt 110 = .ok (.if_icmp .eq 15, 3) := dk_S2 a_Mo_stillAt_110 (dko_159 _) (by decide +kernel)
theorem d_Mo_stillAt_113 : decode b_Mo_stillAt 113 = .ok (.iload_n 3, 1) := dk_0 a_Mo_stillAt_113 (dko_29 _)
theorem d_Mo_stillAt_114 : decode b_Mo_stillAt 114 = .ok (.bipush 19, 2) := dk_S1 a_Mo_stillAt_114 (dko_16 _) (by decide +kernel)
theorem d_Mo_stillAt_116 : decode b_Mo_stillAt 116 = .ok (.if_icmp .eq 9, 3) := dk_S2 a_Mo_stillAt_116 (dko_159 _) (by decide +kernel)
theorem d_Mo_stillAt_119 : decode b_Mo_stillAt 119 = .ok (.iload_n 3, 1) := dk_0 a_Mo_stillAt_119 (dko_29 _)
theorem d_Mo_stillAt_120 : decode b_Mo_stillAt 120 = .ok (.bipush 17, 2) := dk_S1 a_Mo_stillAt_120 (dko_16 _) (by decide +kernel)
theorem d_Mo_stillAt_122 : decode b_Mo_stillAt 122 = .ok (.if_icmp .ne 29, 3) := dk_S2 a_Mo_stillAt_122 (dko_160 _) (by decide +kernel)
theorem d_Mo_stillAt_125 : decode b_Mo_stillAt 125 = .ok (.aload_n 0, 1) := dk_0 a_Mo_stillAt_125 (dko_42 _)
theorem d_Mo_stillAt_126 : decode b_Mo_stillAt 126 = .ok (.getfield 184, 3) := dk_U2 a_Mo_stillAt_126 (dko_180 _) rfl
theorem d_Mo_stillAt_129 : decode b_Mo_stillAt 129 = .ok (.iload_n 1, 1) := dk_0 a_Mo_stillAt_129 (dko_27 _)
theorem d_Mo_stillAt_130 : decode b_Mo_stillAt 130 = .ok (.iaload, 1) := dk_0 a_Mo_stillAt_130 (dko_46 _)
theorem d_Mo_stillAt_131 : decode b_Mo_stillAt 131 = .ok (.iconst (-1), 1) := dk_0 a_Mo_stillAt_131 (dko_2 _)
theorem d_Mo_stillAt_132 : decode b_Mo_stillAt 132 = .ok (.if_icmp .ne 7, 3) := dk_S2 a_Mo_stillAt_132 (dko_160 _) (by decide +kernel)
theorem d_Mo_stillAt_135 : decode b_Mo_stillAt 135 = .ok (.iconst (-1), 1) := dk_0 a_Mo_stillAt_135 (dko_2 _)
theorem d_Mo_stillAt_136 : decode b_Mo_stillAt 136 = .ok (.goto 14, 3) := dk_S2 a_Mo_stillAt_136 (dko_167 _) (by decide +kernel)
theorem d_Mo_stillAt_139 : decode b_Mo_stillAt 139 = .ok (.aload_n 0, 1) := dk_0 a_Mo_stillAt_139 (dko_42 _)
theorem d_Mo_stillAt_140 : decode b_Mo_stillAt 140 = .ok (.aload_n 0, 1) := dk_0 a_Mo_stillAt_140 (dko_42 _)
theorem d_Mo_stillAt_141 : decode b_Mo_stillAt 141 = .ok (.getfield 184, 3) := dk_U2 a_Mo_stillAt_141 (dko_180 _) rfl
theorem d_Mo_stillAt_144 : decode b_Mo_stillAt 144 = .ok (.iload_n 1, 1) := dk_0 a_Mo_stillAt_144 (dko_27 _)
theorem d_Mo_stillAt_145 : decode b_Mo_stillAt 145 = .ok (.iaload, 1) := dk_0 a_Mo_stillAt_145 (dko_46 _)
theorem d_Mo_stillAt_146 : decode b_Mo_stillAt 146 = .ok (.iload_n 2, 1) := dk_0 a_Mo_stillAt_146 (dko_28 _)
theorem d_Mo_stillAt_147 : decode b_Mo_stillAt 147 = .ok (.invokevirtual 572, 3) := dk_U2 a_Mo_stillAt_147 (dko_182 _) rfl
theorem d_Mo_stillAt_150 : decode b_Mo_stillAt 150 = .ok (.ireturn, 1) := dk_0 a_Mo_stillAt_150 (dko_172 _)
theorem d_Mo_stillAt_151 : decode b_Mo_stillAt 151 = .ok (.iload_n 2, 1) := dk_0 a_Mo_stillAt_151 (dko_28 _)
theorem d_Mo_stillAt_152 : decode b_Mo_stillAt 152 = .ok (.ifCond .eq 26, 3) := dk_S2 a_Mo_stillAt_152 (dko_153 _) (by decide +kernel)
theorem d_Mo_stillAt_155 : decode b_Mo_stillAt 155 = .ok (.iload_n 3, 1) := dk_0 a_Mo_stillAt_155 (dko_29 _)
theorem d_Mo_stillAt_156 : decode b_Mo_stillAt 156 = .ok (.bipush 18, 2) := dk_S1 a_Mo_stillAt_156 (dko_16 _) (by decide +kernel)
theorem d_Mo_stillAt_158 : decode b_Mo_stillAt 158 = .ok (.if_icmp .ne 16, 3) := dk_S2 a_Mo_stillAt_158 (dko_160 _) (by decide +kernel)
theorem d_Mo_stillAt_161 : decode b_Mo_stillAt 161 = .ok (.aload_n 0, 1) := dk_0 a_Mo_stillAt_161 (dko_42 _)
theorem d_Mo_stillAt_162 : decode b_Mo_stillAt 162 = .ok (.getfield 178, 3) := dk_U2 a_Mo_stillAt_162 (dko_180 _) rfl
theorem d_Mo_stillAt_165 : decode b_Mo_stillAt 165 = .ok (.iload_n 1, 1) := dk_0 a_Mo_stillAt_165 (dko_27 _)
theorem d_Mo_stillAt_166 : decode b_Mo_stillAt 166 = .ok (.baload, 1) := dk_0 a_Mo_stillAt_166 (dko_51 _)
theorem d_Mo_stillAt_167 : decode b_Mo_stillAt 167 = .ok (.ifCond .ne 7, 3) := dk_S2 a_Mo_stillAt_167 (dko_154 _) (by decide +kernel)
theorem d_Mo_stillAt_170 : decode b_Mo_stillAt 170 = .ok (.iconst 1, 1) := dk_0 a_Mo_stillAt_170 (dko_4 _)
theorem d_Mo_stillAt_171 : decode b_Mo_stillAt 171 = .ok (.goto 36, 3) := dk_S2 a_Mo_stillAt_171 (dko_167 _) (by decide +kernel)
theorem d_Mo_stillAt_174 : decode b_Mo_stillAt 174 = .ok (.iconst 0, 1) := dk_0 a_Mo_stillAt_174 (dko_3 _)
theorem d_Mo_stillAt_175 : decode b_Mo_stillAt 175 = .ok (.goto 32, 3) := dk_S2 a_Mo_stillAt_175 (dko_167 _) (by decide +kernel)
theorem d_Mo_stillAt_178 : decode b_Mo_stillAt 178 = .ok (.iload_n 3, 1) := dk_0 a_Mo_stillAt_178 (dko_29 _)
theorem d_Mo_stillAt_179 : decode b_Mo_stillAt 179 = .ok (.bipush 11, 2) := dk_S1 a_Mo_stillAt_179 (dko_16 _) (by decide +kernel)
theorem d_Mo_stillAt_181 : decode b_Mo_stillAt 181 = .ok (.if_icmp .eq 21, 3) := dk_S2 a_Mo_stillAt_181 (dko_159 _) (by decide +kernel)
theorem d_Mo_stillAt_184 : decode b_Mo_stillAt 184 = .ok (.iload_n 3, 1) := dk_0 a_Mo_stillAt_184 (dko_29 _)
theorem d_Mo_stillAt_185 : decode b_Mo_stillAt 185 = .ok (.bipush 12, 2) := dk_S1 a_Mo_stillAt_185 (dko_16 _) (by decide +kernel)
theorem d_Mo_stillAt_187 : decode b_Mo_stillAt 187 = .ok (.if_icmp .eq 15, 3) := dk_S2 a_Mo_stillAt_187 (dko_159 _) (by decide +kernel)
theorem d_Mo_stillAt_190 : decode b_Mo_stillAt 190 = .ok (.iload_n 3, 1) := dk_0 a_Mo_stillAt_190 (dko_29 _)
theorem d_Mo_stillAt_191 : decode b_Mo_stillAt 191 = .ok (.bipush 13, 2) := dk_S1 a_Mo_stillAt_191 (dko_16 _) (by decide +kernel)
theorem d_Mo_stillAt_193 : decode b_Mo_stillAt 193 = .ok (.if_icmp .eq 9, 3) := dk_S2 a_Mo_stillAt_193 (dko_159 _) (by decide +kernel)
theorem d_Mo_stillAt_196 : decode b_Mo_stillAt 196 = .ok (.iload_n 3, 1) := dk_0 a_Mo_stillAt_196 (dko_29 _)
theorem d_Mo_stillAt_197 : decode b_Mo_stillAt 197 = .ok (.bipush 18, 2) := dk_S1 a_Mo_stillAt_197 (dko_16 _) (by decide +kernel)
theorem d_Mo_stillAt_199 : decode b_Mo_stillAt 199 = .ok (.if_icmp .ne 7, 3) := dk_S2 a_Mo_stillAt_199 (dko_160 _) (by decide +kernel)
theorem d_Mo_stillAt_202 : decode b_Mo_stillAt 202 = .ok (.iconst 1, 1) := dk_0 a_Mo_stillAt_202 (dko_4 _)
theorem d_Mo_stillAt_203 : decode b_Mo_stillAt 203 = .ok (.goto 4, 3) := dk_S2 a_Mo_stillAt_203 (dko_167 _) (by decide +kernel)
theorem d_Mo_stillAt_206 : decode b_Mo_stillAt 206 = .ok (.iconst 0, 1) := dk_0 a_Mo_stillAt_206 (dko_3 _)
theorem d_Mo_stillAt_207 : decode b_Mo_stillAt 207 = .ok (.istore 4, 2) := dk_U1 a_Mo_stillAt_207 (dko_54 _) rfl
theorem d_Mo_stillAt_209 : decode b_Mo_stillAt 209 = .ok (.aload_n 0, 1) := dk_0 a_Mo_stillAt_209 (dko_42 _)
theorem d_Mo_stillAt_210 : decode b_Mo_stillAt 210 = .ok (.dup, 1) := dk_0 a_Mo_stillAt_210 (dko_89 _)
theorem d_Mo_stillAt_211 : decode b_Mo_stillAt 211 = .ok (.getfield 576, 3) := dk_U2 a_Mo_stillAt_211 (dko_180 _) rfl
theorem d_Mo_stillAt_214 : decode b_Mo_stillAt 214 = .ok (.iload 4, 2) := dk_U1 a_Mo_stillAt_214 (dko_21 _) rfl
theorem d_Mo_stillAt_216 : decode b_Mo_stillAt 216 = .ok (.ifCond .eq 7, 3) := dk_S2 a_Mo_stillAt_216 (dko_153 _) (by decide +kernel)
theorem d_Mo_stillAt_219 : decode b_Mo_stillAt 219 = .ok (.iconst 1, 1) := dk_0 a_Mo_stillAt_219 (dko_4 _)
theorem d_Mo_stillAt_220 : decode b_Mo_stillAt 220 = .ok (.goto 4, 3) := dk_S2 a_Mo_stillAt_220 (dko_167 _) (by decide +kernel)
theorem d_Mo_stillAt_223 : decode b_Mo_stillAt 223 = .ok (.iconst 0, 1) := dk_0 a_Mo_stillAt_223 (dko_3 _)
theorem d_Mo_stillAt_224 : decode b_Mo_stillAt 224 = .ok (.isub, 1) := dk_0 a_Mo_stillAt_224 (dko_100 _)
theorem d_Mo_stillAt_225 : decode b_Mo_stillAt 225 = .ok (.putfield 576, 3) := dk_U2 a_Mo_stillAt_225 (dko_181 _) rfl
theorem d_Mo_stillAt_228 : decode b_Mo_stillAt 228 = .ok (.iload 4, 2) := dk_U1 a_Mo_stillAt_228 (dko_21 _) rfl
theorem d_Mo_stillAt_230 : decode b_Mo_stillAt 230 = .ok (.ifCond .eq 14, 3) := dk_S2 a_Mo_stillAt_230 (dko_153 _) (by decide +kernel)
theorem d_Mo_stillAt_233 : decode b_Mo_stillAt 233 = .ok (.aload_n 0, 1) := dk_0 a_Mo_stillAt_233 (dko_42 _)
theorem d_Mo_stillAt_234 : decode b_Mo_stillAt 234 = .ok (.getfield 576, 3) := dk_U2 a_Mo_stillAt_234 (dko_180 _) rfl
theorem d_Mo_stillAt_237 : decode b_Mo_stillAt 237 = .ok (.ifCond .ge 7, 3) := dk_S2 a_Mo_stillAt_237 (dko_156 _) (by decide +kernel)
theorem d_Mo_stillAt_240 : decode b_Mo_stillAt 240 = .ok (.iload_n 1, 1) := dk_0 a_Mo_stillAt_240 (dko_27 _)
theorem d_Mo_stillAt_241 : decode b_Mo_stillAt 241 = .ok (.goto 4, 3) := dk_S2 a_Mo_stillAt_241 (dko_167 _) (by decide +kernel)
theorem d_Mo_stillAt_244 : decode b_Mo_stillAt 244 = .ok (.iconst (-1), 1) := dk_0 a_Mo_stillAt_244 (dko_2 _)
theorem d_Mo_stillAt_245 : decode b_Mo_stillAt 245 = .ok (.ireturn, 1) := dk_0 a_Mo_stillAt_245 (dko_172 _)
set_option maxHeartbeats 4000000 in
set_option maxRecDepth 100000 in
theorem ok_Mo_stillAt (pc : Nat) : OpS mt mi_Mo_stillAt pc (cs_Mo_stillAt pc) := (os_n (os_n (os_n (os_n (os_n (os_n (os_n (os_l (so_aload_n d_Mo_stillAt_0 rfl)) (os_l (so_get (C := R_Mo) (T := F_Mo) (N := 87) (j := 64) in_Mo rfl (by decide) mw_1858 d_Mo_stillAt_1))) (os_n (os_l (so_iload_n d_Mo_stillAt_4 rfl)) (os_l (so_baload d_Mo_stillAt_5)))) (os_n (os_n (os_l (so_ifne d_Mo_stillAt_6 (by decide))) (os_l (so_iconst d_Mo_stillAt_9 (by decide)))) (os_n (os_l (so_ireturn rfl d_Mo_stillAt_10)) (os_l (so_aload_n d_Mo_stillAt_11 rfl))))) (os_n (os_n (os_n (os_l (so_iload_n d_Mo_stillAt_12 rfl)) (os_l (so_callV (iv := mi_Mo_kind) rfl rfl rfl mw_2627 mw_2629 sl_184 mw_18 mw_2630 ⟨by decide +kernel, by decide +kernel, by decide +kernel⟩ (by decide) d_Mo_stillAt_13))) (os_n (os_l (so_istore_n d_Mo_stillAt_16 rfl (by decide))) (os_l (so_iload_n d_Mo_stillAt_17 rfl)))) (os_n (os_n (os_l (so_bipush d_Mo_stillAt_18 (by decide))) (os_l (so_icne d_Mo_stillAt_20 (by decide)))) (os_n (os_l (so_aload_n d_Mo_stillAt_23 rfl)) (os_l (so_get (C := R_Mo) (T := F_Mo) (N := 87) (j := 62) in_Mo rfl (by decide) mw_1856 d_Mo_stillAt_24)))))) (os_n (os_n (os_n (os_n (os_l (so_iload_n d_Mo_stillAt_27 rfl)) (os_l (so_iaload d_Mo_stillAt_28))) (os_n (os_l (so_istore d_Mo_stillAt_29 (by decide))) (os_l (so_iload d_Mo_stillAt_31)))) (os_n (os_n (os_l (so_iconst d_Mo_stillAt_33 (by decide))) (os_l (so_iceq d_Mo_stillAt_34 (by decide)))) (os_n (os_l (so_aload_n d_Mo_stillAt_37 rfl)) (os_l (so_get (C := R_Mo) (T := F_Mo) (N := 87) (j := 66) in_Mo rfl (by decide) mw_1860 d_Mo_stillAt_38))))) (os_n (os_n (os_n (os_l (so_iload d_Mo_stillAt_41)) (os_l (so_baload d_Mo_stillAt_43))) (os_n (os_l (so_ifeq d_Mo_stillAt_44 (by decide))) (os_l (so_iconst d_Mo_stillAt_47 (by decide))))) (os_n (os_n (os_l (so_goto d_Mo_stillAt_48 (by decide))) (os_l (so_aload_n d_Mo_stillAt_51 rfl))) (os_n (os_l (so_iload d_Mo_stillAt_52)) (os_n (os_l (so_iload_n d_Mo_stillAt_54 rfl)) (os_l (so_callV (iv := mi_Mo_stillAt) rfl rfl rfl mw_2671 mw_2673 sl_194 mw_18 mw_2674 ⟨by decide +kernel, by decide +kernel, by decide +kernel⟩ (by decide) d_Mo_stillAt_55)))))))) (os_n (os_n (os_n (os_n (os_n (os_l (so_istore d_Mo_stillAt_58 (by decide))) (os_l (so_iload d_Mo_stillAt_60))) (os_n (os_l (so_iconst d_Mo_stillAt_62 (by decide))) (os_l (so_iceq d_Mo_stillAt_63 (by decide))))) (os_n (os_n (os_l (so_iload d_Mo_stillAt_66)) (os_l (so_ireturn rfl d_Mo_stillAt_68))) (os_n (os_l (so_aload_n d_Mo_stillAt_69 rfl)) (os_l (so_get (C := R_Mo) (T := F_Mo) (N := 87) (j := 63) in_Mo rfl (by decide) mw_1857 d_Mo_stillAt_70))))) (os_n (os_n (os_n (os_l (so_iload d_Mo_stillAt_73)) (os_l (so_iaload d_Mo_stillAt_75))) (os_n (os_l (so_istore d_Mo_stillAt_76 (by decide))) (os_l (so_goto d_Mo_stillAt_78 (by decide))))) (os_n (os_n (os_l (so_iconst d_Mo_stillAt_81 (by decide))) (os_l (so_ireturn rfl d_Mo_stillAt_82))) (os_n (os_l (so_iload_n d_Mo_stillAt_83 rfl)) (os_n (os_l (so_bipush d_Mo_stillAt_84 (by decide))) (os_l (so_icne d_Mo_stillAt_86 (by decide)))))))) (os_n (os_n (os_n (os_n (os_l (so_aload_n d_Mo_stillAt_89 rfl)) (os_l (so_aload_n d_Mo_stillAt_90 rfl))) (os_n (os_l (so_get (C := R_Mo) (T := F_Mo) (N := 87) (j := 62) in_Mo rfl (by decide) mw_1856 d_Mo_stillAt_91)) (os_l (so_iload_n d_Mo_stillAt_94 rfl)))) (os_n (os_n (os_l (so_iaload d_Mo_stillAt_95)) (os_l (so_iload_n d_Mo_stillAt_96 rfl))) (os_n (os_l (so_callV (iv := mi_Mo_stillAt) rfl rfl rfl mw_2671 mw_2673 sl_194 mw_18 mw_2674 ⟨by decide +kernel, by decide +kernel, by decide +kernel⟩ (by decide) d_Mo_stillAt_97)) (os_l (so_ireturn rfl d_Mo_stillAt_100))))) (os_n (os_n (os_n (os_l (so_iload_n d_Mo_stillAt_101 rfl)) (os_l (so_bipush d_Mo_stillAt_102 (by decide)))) (os_n (os_l (so_iceq d_Mo_stillAt_104 (by decide))) (os_l (so_iload_n d_Mo_stillAt_107 rfl)))) (os_n (os_n (os_l (so_bipush d_Mo_stillAt_108 (by decide))) (os_l (so_iceq d_Mo_stillAt_110 (by decide)))) (os_n (os_l (so_iload_n d_Mo_stillAt_113 rfl)) (os_n (os_l (so_bipush d_Mo_stillAt_114 (by decide))) (os_l (so_iceq d_Mo_stillAt_116 (by decide)))))))))) (os_n (os_n (os_n (os_n (os_n (os_n (os_l (so_iload_n d_Mo_stillAt_119 rfl)) (os_l (so_bipush d_Mo_stillAt_120 (by decide)))) (os_n (os_l (so_icne d_Mo_stillAt_122 (by decide))) (os_l (so_aload_n d_Mo_stillAt_125 rfl)))) (os_n (os_n (os_l (so_get (C := R_Mo) (T := F_Mo) (N := 87) (j := 67) in_Mo rfl (by decide) mw_1861 d_Mo_stillAt_126)) (os_l (so_iload_n d_Mo_stillAt_129 rfl))) (os_n (os_l (so_iaload d_Mo_stillAt_130)) (os_l (so_iconst d_Mo_stillAt_131 (by decide)))))) (os_n (os_n (os_n (os_l (so_icne d_Mo_stillAt_132 (by decide))) (os_l (so_iconst d_Mo_stillAt_135 (by decide)))) (os_n (os_l (so_goto d_Mo_stillAt_136 (by decide))) (os_l (so_aload_n d_Mo_stillAt_139 rfl)))) (os_n (os_n (os_l (so_aload_n d_Mo_stillAt_140 rfl)) (os_l (so_get (C := R_Mo) (T := F_Mo) (N := 87) (j := 67) in_Mo rfl (by decide) mw_1861 d_Mo_stillAt_141))) (os_n (os_l (so_iload_n d_Mo_stillAt_144 rfl)) (os_n (os_l (so_iaload d_Mo_stillAt_145)) (os_l (so_iload_n d_Mo_stillAt_146 rfl))))))) (os_n (os_n (os_n (os_n (os_l (so_callV (iv := mi_Mo_stillAt) rfl rfl rfl mw_2671 mw_2673 sl_194 mw_18 mw_2674 ⟨by decide +kernel, by decide +kernel, by decide +kernel⟩ (by decide) d_Mo_stillAt_147)) (os_l (so_ireturn rfl d_Mo_stillAt_150))) (os_n (os_l (so_iload_n d_Mo_stillAt_151 rfl)) (os_l (so_ifeq d_Mo_stillAt_152 (by decide))))) (os_n (os_n (os_l (so_iload_n d_Mo_stillAt_155 rfl)) (os_l (so_bipush d_Mo_stillAt_156 (by decide)))) (os_n (os_l (so_icne d_Mo_stillAt_158 (by decide))) (os_l (so_aload_n d_Mo_stillAt_161 rfl))))) (os_n (os_n (os_n (os_l (so_get (C := R_Mo) (T := F_Mo) (N := 87) (j := 65) in_Mo rfl (by decide) mw_1859 d_Mo_stillAt_162)) (os_l (so_iload_n d_Mo_stillAt_165 rfl))) (os_n (os_l (so_baload d_Mo_stillAt_166)) (os_l (so_ifne d_Mo_stillAt_167 (by decide))))) (os_n (os_n (os_l (so_iconst d_Mo_stillAt_170 (by decide))) (os_l (so_goto d_Mo_stillAt_171 (by decide)))) (os_n (os_l (so_iconst d_Mo_stillAt_174 (by decide))) (os_n (os_l (so_goto d_Mo_stillAt_175 (by decide))) (os_l (so_iload_n d_Mo_stillAt_178 rfl)))))))) (os_n (os_n (os_n (os_n (os_n (os_l (so_bipush d_Mo_stillAt_179 (by decide))) (os_l (so_iceq d_Mo_stillAt_181 (by decide)))) (os_n (os_l (so_iload_n d_Mo_stillAt_184 rfl)) (os_l (so_bipush d_Mo_stillAt_185 (by decide))))) (os_n (os_n (os_l (so_iceq d_Mo_stillAt_187 (by decide))) (os_l (so_iload_n d_Mo_stillAt_190 rfl))) (os_n (os_l (so_bipush d_Mo_stillAt_191 (by decide))) (os_l (so_iceq d_Mo_stillAt_193 (by decide)))))) (os_n (os_n (os_n (os_l (so_iload_n d_Mo_stillAt_196 rfl)) (os_l (so_bipush d_Mo_stillAt_197 (by decide)))) (os_n (os_l (so_icne d_Mo_stillAt_199 (by decide))) (os_l (so_iconst d_Mo_stillAt_202 (by decide))))) (os_n (os_n (os_l (so_goto d_Mo_stillAt_203 (by decide))) (os_l (so_iconst d_Mo_stillAt_206 (by decide)))) (os_n (os_l (so_istore d_Mo_stillAt_207 (by decide))) (os_n (os_l (so_aload_n d_Mo_stillAt_209 rfl)) (os_l (so_dup d_Mo_stillAt_210))))))) (os_n (os_n (os_n (os_n (os_l (so_get (C := R_Mo) (T := F_Mo) (N := 87) (j := 77) in_Mo rfl (by decide) mw_1871 d_Mo_stillAt_211)) (os_l (so_iload d_Mo_stillAt_214))) (os_n (os_l (so_ifeq d_Mo_stillAt_216 (by decide))) (os_l (so_iconst d_Mo_stillAt_219 (by decide))))) (os_n (os_n (os_l (so_goto d_Mo_stillAt_220 (by decide))) (os_l (so_iconst d_Mo_stillAt_223 (by decide)))) (os_n (os_l (so_isub d_Mo_stillAt_224)) (os_l (so_putI (C := R_Mo) (T := F_Mo) (N := 87) (j := 77) in_Mo t_Mo_ok n_Mo rfl (by decide) mw_1871 rfl (by decide +kernel) d_Mo_stillAt_225))))) (os_n (os_n (os_n (os_l (so_iload d_Mo_stillAt_228)) (os_l (so_ifeq d_Mo_stillAt_230 (by decide)))) (os_n (os_l (so_aload_n d_Mo_stillAt_233 rfl)) (os_l (so_get (C := R_Mo) (T := F_Mo) (N := 87) (j := 77) in_Mo rfl (by decide) mw_1871 d_Mo_stillAt_234)))) (os_n (os_n (os_l (so_ifge d_Mo_stillAt_237 (by decide))) (os_l (so_iload_n d_Mo_stillAt_240 rfl))) (os_n (os_l (so_goto d_Mo_stillAt_241 (by decide))) (os_n (os_l (so_iconst d_Mo_stillAt_244 (by decide))) (os_l (so_ireturn rfl d_Mo_stillAt_245))))))))))
abbrev t_Mo_answer_66 : List UInt8 := 172 :: []
abbrev t_Mo_answer_65 : List UInt8 := 4 :: t_Mo_answer_66
abbrev t_Mo_answer_64 : List UInt8 := 80 :: t_Mo_answer_65
abbrev t_Mo_answer_63 : List UInt8 := 31 :: t_Mo_answer_64
abbrev t_Mo_answer_62 : List UInt8 := 136 :: t_Mo_answer_63
abbrev t_Mo_answer_61 : List UInt8 := 47 :: t_Mo_answer_62
abbrev t_Mo_answer_58 : List UInt8 := 182 :: 1 :: 231 :: t_Mo_answer_61
abbrev t_Mo_answer_57 : List UInt8 := 46 :: t_Mo_answer_58
abbrev t_Mo_answer_56 : List UInt8 := 29 :: t_Mo_answer_57
abbrev t_Mo_answer_53 : List UInt8 := 180 :: 0 :: 166 :: t_Mo_answer_56
abbrev t_Mo_answer_52 : List UInt8 := 42 :: t_Mo_answer_53
abbrev t_Mo_answer_49 : List UInt8 := 180 :: 0 :: 16 :: t_Mo_answer_52
abbrev t_Mo_answer_48 : List UInt8 := 42 :: t_Mo_answer_49
abbrev t_Mo_answer_45 : List UInt8 := 180 :: 1 :: 243 :: t_Mo_answer_48
abbrev t_Mo_answer_42 : List UInt8 := 180 :: 0 :: 16 :: t_Mo_answer_45
abbrev t_Mo_answer_41 : List UInt8 := 42 :: t_Mo_answer_42
abbrev t_Mo_answer_38 : List UInt8 := 180 :: 0 :: 159 :: t_Mo_answer_41
abbrev t_Mo_answer_37 : List UInt8 := 42 :: t_Mo_answer_38
abbrev t_Mo_answer_36 : List UInt8 := 84 :: t_Mo_answer_37
abbrev t_Mo_answer_35 : List UInt8 := 4 :: t_Mo_answer_36
abbrev t_Mo_answer_34 : List UInt8 := 29 :: t_Mo_answer_35
abbrev t_Mo_answer_31 : List UInt8 := 180 :: 0 :: 178 :: t_Mo_answer_34
abbrev t_Mo_answer_30 : List UInt8 := 42 :: t_Mo_answer_31
abbrev t_Mo_answer_29 : List UInt8 := 172 :: t_Mo_answer_30
abbrev t_Mo_answer_28 : List UInt8 := 3 :: t_Mo_answer_29
abbrev t_Mo_answer_25 : List UInt8 := 160 :: 0 :: 5 :: t_Mo_answer_28
abbrev t_Mo_answer_24 : List UInt8 := 2 :: t_Mo_answer_25
abbrev t_Mo_answer_23 : List UInt8 := 29 :: t_Mo_answer_24
abbrev t_Mo_answer_22 : List UInt8 := 62 :: t_Mo_answer_23
abbrev t_Mo_answer_21 : List UInt8 := 2 :: t_Mo_answer_22
abbrev t_Mo_answer_18 : List UInt8 := 167 :: 0 :: 4 :: t_Mo_answer_21
abbrev t_Mo_answer_15 : List UInt8 := 182 :: 2 :: 60 :: t_Mo_answer_18
abbrev t_Mo_answer_14 : List UInt8 := 4 :: t_Mo_answer_15
abbrev t_Mo_answer_13 : List UInt8 := 3 :: t_Mo_answer_14
abbrev t_Mo_answer_12 : List UInt8 := 42 :: t_Mo_answer_13
abbrev t_Mo_answer_9 : List UInt8 := 154 :: 0 :: 12 :: t_Mo_answer_12
abbrev t_Mo_answer_6 : List UInt8 := 180 :: 0 :: 162 :: t_Mo_answer_9
abbrev t_Mo_answer_5 : List UInt8 := 42 :: t_Mo_answer_6
abbrev t_Mo_answer_2 : List UInt8 := 181 :: 2 :: 64 :: t_Mo_answer_5
abbrev t_Mo_answer_1 : List UInt8 := 3 :: t_Mo_answer_2
abbrev t_Mo_answer_0 : List UInt8 := 42 :: t_Mo_answer_1
theorem a_Mo_answer_0 : dk_at b_Mo_answer 0 t_Mo_answer_0 := dk_start (by decide +kernel)
theorem a_Mo_answer_1 : dk_at b_Mo_answer 1 t_Mo_answer_1 := dk_go 1 a_Mo_answer_0 rfl
theorem a_Mo_answer_2 : dk_at b_Mo_answer 2 t_Mo_answer_2 := dk_go 1 a_Mo_answer_1 rfl
theorem a_Mo_answer_5 : dk_at b_Mo_answer 5 t_Mo_answer_5 := dk_go 3 a_Mo_answer_2 rfl
theorem a_Mo_answer_6 : dk_at b_Mo_answer 6 t_Mo_answer_6 := dk_go 1 a_Mo_answer_5 rfl
theorem a_Mo_answer_9 : dk_at b_Mo_answer 9 t_Mo_answer_9 := dk_go 3 a_Mo_answer_6 rfl
theorem a_Mo_answer_12 : dk_at b_Mo_answer 12 t_Mo_answer_12 := dk_go 3 a_Mo_answer_9 rfl
theorem a_Mo_answer_13 : dk_at b_Mo_answer 13 t_Mo_answer_13 := dk_go 1 a_Mo_answer_12 rfl
theorem a_Mo_answer_14 : dk_at b_Mo_answer 14 t_Mo_answer_14 := dk_go 1 a_Mo_answer_13 rfl
theorem a_Mo_answer_15 : dk_at b_Mo_answer 15 t_Mo_answer_15 := dk_go 1 a_Mo_answer_14 rfl
theorem a_Mo_answer_18 : dk_at b_Mo_answer 18 t_Mo_answer_18 := dk_go 3 a_Mo_answer_15 rfl
theorem a_Mo_answer_21 : dk_at b_Mo_answer 21 t_Mo_answer_21 := dk_go 3 a_Mo_answer_18 rfl
theorem a_Mo_answer_22 : dk_at b_Mo_answer 22 t_Mo_answer_22 := dk_go 1 a_Mo_answer_21 rfl
theorem a_Mo_answer_23 : dk_at b_Mo_answer 23 t_Mo_answer_23 := dk_go 1 a_Mo_answer_22 rfl
theorem a_Mo_answer_24 : dk_at b_Mo_answer 24 t_Mo_answer_24 := dk_go 1 a_Mo_answer_23 rfl
theorem a_Mo_answer_25 : dk_at b_Mo_answer 25 t_Mo_answer_25 := dk_go 1 a_Mo_answer_24 rfl
theorem a_Mo_answer_28 : dk_at b_Mo_answer 28 t_Mo_answer_28 := dk_go 3 a_Mo_answer_25 rfl
theorem a_Mo_answer_29 : dk_at b_Mo_answer 29 t_Mo_answer_29 := dk_go 1 a_Mo_answer_28 rfl
theorem a_Mo_answer_30 : dk_at b_Mo_answer 30 t_Mo_answer_30 := dk_go 1 a_Mo_answer_29 rfl
theorem a_Mo_answer_31 : dk_at b_Mo_answer 31 t_Mo_answer_31 := dk_go 1 a_Mo_answer_30 rfl
theorem a_Mo_answer_34 : dk_at b_Mo_answer 34 t_Mo_answer_34 := dk_go 3 a_Mo_answer_31 rfl
theorem a_Mo_answer_35 : dk_at b_Mo_answer 35 t_Mo_answer_35 := dk_go 1 a_Mo_answer_34 rfl
theorem a_Mo_answer_36 : dk_at b_Mo_answer 36 t_Mo_answer_36 := dk_go 1 a_Mo_answer_35 rfl
theorem a_Mo_answer_37 : dk_at b_Mo_answer 37 t_Mo_answer_37 := dk_go 1 a_Mo_answer_36 rfl
theorem a_Mo_answer_38 : dk_at b_Mo_answer 38 t_Mo_answer_38 := dk_go 1 a_Mo_answer_37 rfl
theorem a_Mo_answer_41 : dk_at b_Mo_answer 41 t_Mo_answer_41 := dk_go 3 a_Mo_answer_38 rfl
theorem a_Mo_answer_42 : dk_at b_Mo_answer 42 t_Mo_answer_42 := dk_go 1 a_Mo_answer_41 rfl
theorem a_Mo_answer_45 : dk_at b_Mo_answer 45 t_Mo_answer_45 := dk_go 3 a_Mo_answer_42 rfl
theorem a_Mo_answer_48 : dk_at b_Mo_answer 48 t_Mo_answer_48 := dk_go 3 a_Mo_answer_45 rfl
theorem a_Mo_answer_49 : dk_at b_Mo_answer 49 t_Mo_answer_49 := dk_go 1 a_Mo_answer_48 rfl
theorem a_Mo_answer_52 : dk_at b_Mo_answer 52 t_Mo_answer_52 := dk_go 3 a_Mo_answer_49 rfl
theorem a_Mo_answer_53 : dk_at b_Mo_answer 53 t_Mo_answer_53 := dk_go 1 a_Mo_answer_52 rfl
theorem a_Mo_answer_56 : dk_at b_Mo_answer 56 t_Mo_answer_56 := dk_go 3 a_Mo_answer_53 rfl
theorem a_Mo_answer_57 : dk_at b_Mo_answer 57 t_Mo_answer_57 := dk_go 1 a_Mo_answer_56 rfl
theorem a_Mo_answer_58 : dk_at b_Mo_answer 58 t_Mo_answer_58 := dk_go 1 a_Mo_answer_57 rfl
theorem a_Mo_answer_61 : dk_at b_Mo_answer 61 t_Mo_answer_61 := dk_go 3 a_Mo_answer_58 rfl
theorem a_Mo_answer_62 : dk_at b_Mo_answer 62 t_Mo_answer_62 := dk_go 1 a_Mo_answer_61 rfl
theorem a_Mo_answer_63 : dk_at b_Mo_answer 63 t_Mo_answer_63 := dk_go 1 a_Mo_answer_62 rfl
theorem a_Mo_answer_64 : dk_at b_Mo_answer 64 t_Mo_answer_64 := dk_go 1 a_Mo_answer_63 rfl
theorem a_Mo_answer_65 : dk_at b_Mo_answer 65 t_Mo_answer_65 := dk_go 1 a_Mo_answer_64 rfl
theorem a_Mo_answer_66 : dk_at b_Mo_answer 66 t_Mo_answer_66 := dk_go 1 a_Mo_answer_65 rfl
theorem d_Mo_answer_0 : decode b_Mo_answer 0 = .ok (.aload_n 0, 1) := dk_0 a_Mo_answer_0 (dko_42 _)
theorem d_Mo_answer_1 : decode b_Mo_answer 1 = .ok (.iconst 0, 1) := dk_0 a_Mo_answer_1 (dko_3 _)
theorem d_Mo_answer_2 : decode b_Mo_answer 2 = .ok (.putfield 576, 3) := dk_U2 a_Mo_answer_2 (dko_181 _) rfl
theorem d_Mo_answer_5 : decode b_Mo_answer 5 = .ok (.aload_n 0, 1) := dk_0 a_Mo_answer_5 (dko_42 _)
theorem d_Mo_answer_6 : decode b_Mo_answer 6 = .ok (.getfield 162, 3) := dk_U2 a_Mo_answer_6 (dko_180 _) rfl
theorem d_Mo_answer_9 : decode b_Mo_answer 9 = .ok (.ifCond .ne 12, 3) := dk_S2 a_Mo_answer_9 (dko_154 _) (by decide +kernel)
theorem d_Mo_answer_12 : decode b_Mo_answer 12 = .ok (.aload_n 0, 1) := dk_0 a_Mo_answer_12 (dko_42 _)
theorem d_Mo_answer_13 : decode b_Mo_answer 13 = .ok (.iconst 0, 1) := dk_0 a_Mo_answer_13 (dko_3 _)
theorem d_Mo_answer_14 : decode b_Mo_answer 14 = .ok (.iconst 1, 1) := dk_0 a_Mo_answer_14 (dko_4 _)
theorem d_Mo_answer_15 : decode b_Mo_answer 15 = .ok (.invokevirtual 572, 3) := dk_U2 a_Mo_answer_15 (dko_182 _) rfl
theorem d_Mo_answer_18 : decode b_Mo_answer 18 = .ok (.goto 4, 3) := dk_S2 a_Mo_answer_18 (dko_167 _) (by decide +kernel)
theorem d_Mo_answer_21 : decode b_Mo_answer 21 = .ok (.iconst (-1), 1) := dk_0 a_Mo_answer_21 (dko_2 _)
theorem d_Mo_answer_22 : decode b_Mo_answer 22 = .ok (.istore_n 3, 1) := dk_0 a_Mo_answer_22 (dko_62 _)
theorem d_Mo_answer_23 : decode b_Mo_answer 23 = .ok (.iload_n 3, 1) := dk_0 a_Mo_answer_23 (dko_29 _)
theorem d_Mo_answer_24 : decode b_Mo_answer 24 = .ok (.iconst (-1), 1) := dk_0 a_Mo_answer_24 (dko_2 _)
theorem d_Mo_answer_25 : decode b_Mo_answer 25 = .ok (.if_icmp .ne 5, 3) := dk_S2 a_Mo_answer_25 (dko_160 _) (by decide +kernel)
theorem d_Mo_answer_28 : decode b_Mo_answer 28 = .ok (.iconst 0, 1) := dk_0 a_Mo_answer_28 (dko_3 _)
theorem d_Mo_answer_29 : decode b_Mo_answer 29 = .ok (.ireturn, 1) := dk_0 a_Mo_answer_29 (dko_172 _)
theorem d_Mo_answer_30 : decode b_Mo_answer 30 = .ok (.aload_n 0, 1) := dk_0 a_Mo_answer_30 (dko_42 _)
theorem d_Mo_answer_31 : decode b_Mo_answer 31 = .ok (.getfield 178, 3) := dk_U2 a_Mo_answer_31 (dko_180 _) rfl
theorem d_Mo_answer_34 : decode b_Mo_answer 34 = .ok (.iload_n 3, 1) := dk_0 a_Mo_answer_34 (dko_29 _)
theorem d_Mo_answer_35 : decode b_Mo_answer 35 = .ok (.iconst 1, 1) := dk_0 a_Mo_answer_35 (dko_4 _)
theorem d_Mo_answer_36 : decode b_Mo_answer 36 = .ok (.bastore, 1) := dk_0 a_Mo_answer_36 (dko_84 _)
theorem d_Mo_answer_37 : decode b_Mo_answer 37 = .ok (.aload_n 0, 1) := dk_0 a_Mo_answer_37 (dko_42 _)
theorem d_Mo_answer_38 : decode b_Mo_answer 38 = .ok (.getfield 159, 3) := dk_U2 a_Mo_answer_38 (dko_180 _) rfl
theorem d_Mo_answer_41 : decode b_Mo_answer 41 = .ok (.aload_n 0, 1) := dk_0 a_Mo_answer_41 (dko_42 _)
theorem d_Mo_answer_42 : decode b_Mo_answer 42 = .ok (.getfield 16, 3) := dk_U2 a_Mo_answer_42 (dko_180 _) rfl
theorem d_Mo_answer_45 : decode b_Mo_answer 45 = .ok (.getfield 499, 3) := dk_U2 a_Mo_answer_45 (dko_180 _) rfl
theorem d_Mo_answer_48 : decode b_Mo_answer 48 = .ok (.aload_n 0, 1) := dk_0 a_Mo_answer_48 (dko_42 _)
theorem d_Mo_answer_49 : decode b_Mo_answer 49 = .ok (.getfield 16, 3) := dk_U2 a_Mo_answer_49 (dko_180 _) rfl
theorem d_Mo_answer_52 : decode b_Mo_answer 52 = .ok (.aload_n 0, 1) := dk_0 a_Mo_answer_52 (dko_42 _)
theorem d_Mo_answer_53 : decode b_Mo_answer 53 = .ok (.getfield 166, 3) := dk_U2 a_Mo_answer_53 (dko_180 _) rfl
theorem d_Mo_answer_56 : decode b_Mo_answer 56 = .ok (.iload_n 3, 1) := dk_0 a_Mo_answer_56 (dko_29 _)
theorem d_Mo_answer_57 : decode b_Mo_answer 57 = .ok (.iaload, 1) := dk_0 a_Mo_answer_57 (dko_46 _)
theorem d_Mo_answer_58 : decode b_Mo_answer 58 = .ok (.invokevirtual 487, 3) := dk_U2 a_Mo_answer_58 (dko_182 _) rfl
theorem d_Mo_answer_61 : decode b_Mo_answer 61 = .ok (.laload, 1) := dk_0 a_Mo_answer_61 (dko_47 _)
theorem d_Mo_answer_62 : decode b_Mo_answer 62 = .ok (.l2i, 1) := dk_0 a_Mo_answer_62 (dko_136 _)
theorem d_Mo_answer_63 : decode b_Mo_answer 63 = .ok (.lload_n 1, 1) := dk_0 a_Mo_answer_63 (dko_31 _)
theorem d_Mo_answer_64 : decode b_Mo_answer 64 = .ok (.lastore, 1) := dk_0 a_Mo_answer_64 (dko_80 _)
theorem d_Mo_answer_65 : decode b_Mo_answer 65 = .ok (.iconst 1, 1) := dk_0 a_Mo_answer_65 (dko_4 _)
theorem d_Mo_answer_66 : decode b_Mo_answer 66 = .ok (.ireturn, 1) := dk_0 a_Mo_answer_66 (dko_172 _)
set_option maxHeartbeats 4000000 in
set_option maxRecDepth 100000 in
theorem ok_Mo_answer (pc : Nat) : OpS mt mi_Mo_answer pc (cs_Mo_answer pc) := (os_n (os_n (os_n (os_n (os_n (os_l (so_aload_n d_Mo_answer_0 rfl)) (os_l (so_iconst d_Mo_answer_1 (by decide)))) (os_n (os_l (so_putI (C := R_Mo) (T := F_Mo) (N := 87) (j := 77) in_Mo t_Mo_ok n_Mo rfl (by decide) mw_1871 rfl (by decide +kernel) d_Mo_answer_2)) (os_n (os_l (so_aload_n d_Mo_answer_5 rfl)) (os_l (so_get (C := R_Mo) (T := F_Mo) (N := 87) (j := 59) in_Mo rfl (by decide) mw_1853 d_Mo_answer_6))))) (os_n (os_n (os_l (so_ifne d_Mo_answer_9 (by decide))) (os_l (so_aload_n d_Mo_answer_12 rfl))) (os_n (os_l (so_iconst d_Mo_answer_13 (by decide))) (os_n (os_l (so_iconst d_Mo_answer_14 (by decide))) (os_l (so_callV (iv := mi_Mo_stillAt) rfl rfl rfl mw_2671 mw_2673 sl_194 mw_18 mw_2674 ⟨by decide +kernel, by decide +kernel, by decide +kernel⟩ (by decide) d_Mo_answer_15)))))) (os_n (os_n (os_n (os_l (so_goto d_Mo_answer_18 (by decide))) (os_l (so_iconst d_Mo_answer_21 (by decide)))) (os_n (os_l (so_istore_n d_Mo_answer_22 rfl (by decide))) (os_n (os_l (so_iload_n d_Mo_answer_23 rfl)) (os_l (so_iconst d_Mo_answer_24 (by decide)))))) (os_n (os_n (os_l (so_icne d_Mo_answer_25 (by decide))) (os_l (so_iconst d_Mo_answer_28 (by decide)))) (os_n (os_l (so_zreturn rfl d_Mo_answer_29)) (os_n (os_l (so_aload_n d_Mo_answer_30 rfl)) (os_l (so_get (C := R_Mo) (T := F_Mo) (N := 87) (j := 65) in_Mo rfl (by decide) mw_1859 d_Mo_answer_31))))))) (os_n (os_n (os_n (os_n (os_l (so_iload_n d_Mo_answer_34 rfl)) (os_l (so_iconst d_Mo_answer_35 (by decide)))) (os_n (os_l (so_bastore d_Mo_answer_36)) (os_n (os_l (so_aload_n d_Mo_answer_37 rfl)) (os_l (so_get (C := R_Mo) (T := F_Mo) (N := 87) (j := 58) in_Mo rfl (by decide) mw_1852 d_Mo_answer_38))))) (os_n (os_n (os_l (so_aload_n d_Mo_answer_41 rfl)) (os_l (so_get (C := R_Mo) (T := F_Mo) (N := 87) (j := 2) in_Mo rfl (by decide) mw_1796 d_Mo_answer_42))) (os_n (os_l (so_getN (C := R_Tx) (T := F_Tx) (N := 39) (j := 15) in_Tx rfl (by decide) nw_1597 d_Mo_answer_45)) (os_n (os_l (so_aload_n d_Mo_answer_48 rfl)) (os_l (so_get (C := R_Mo) (T := F_Mo) (N := 87) (j := 2) in_Mo rfl (by decide) mw_1796 d_Mo_answer_49)))))) (os_n (os_n (os_n (os_l (so_aload_n d_Mo_answer_52 rfl)) (os_l (so_get (C := R_Mo) (T := F_Mo) (N := 87) (j := 61) in_Mo rfl (by decide) mw_1855 d_Mo_answer_53))) (os_n (os_l (so_iload_n d_Mo_answer_56 rfl)) (os_n (os_l (so_iaload d_Mo_answer_57)) (os_l (so_callVN (iv := mi_Tx_node1) rfl rfl rfl nw_2578 mw_2580 sl_175 mw_19 mw_2581 ⟨by decide +kernel, by decide +kernel, by decide +kernel⟩ (by decide) d_Mo_answer_58))))) (os_n (os_n (os_l (so_laload d_Mo_answer_61)) (os_n (os_l (so_l2i d_Mo_answer_62)) (os_l (so_lload_n d_Mo_answer_63 rfl)))) (os_n (os_l (so_lastore d_Mo_answer_64)) (os_n (os_l (so_iconst d_Mo_answer_65 (by decide))) (os_l (so_zreturn rfl d_Mo_answer_66))))))))
abbrev t_Mo_hold_46 : List UInt8 := 172 :: []
abbrev t_Mo_hold_45 : List UInt8 := 4 :: t_Mo_hold_46
abbrev t_Mo_hold_42 : List UInt8 := 182 :: 0 :: 231 :: t_Mo_hold_45
abbrev t_Mo_hold_41 : List UInt8 := 42 :: t_Mo_hold_42
abbrev t_Mo_hold_38 : List UInt8 := 153 :: 0 :: 7 :: t_Mo_hold_41
abbrev t_Mo_hold_37 : List UInt8 := 27 :: t_Mo_hold_38
abbrev t_Mo_hold_34 : List UInt8 := 181 :: 0 :: 162 :: t_Mo_hold_37
abbrev t_Mo_hold_33 : List UInt8 := 3 :: t_Mo_hold_34
abbrev t_Mo_hold_30 : List UInt8 := 167 :: 0 :: 4 :: t_Mo_hold_33
abbrev t_Mo_hold_29 : List UInt8 := 5 :: t_Mo_hold_30
abbrev t_Mo_hold_26 : List UInt8 := 153 :: 0 :: 7 :: t_Mo_hold_29
abbrev t_Mo_hold_25 : List UInt8 := 27 :: t_Mo_hold_26
abbrev t_Mo_hold_24 : List UInt8 := 42 :: t_Mo_hold_25
abbrev t_Mo_hold_23 : List UInt8 := 172 :: t_Mo_hold_24
abbrev t_Mo_hold_22 : List UInt8 := 3 :: t_Mo_hold_23
abbrev t_Mo_hold_19 : List UInt8 := 159 :: 0 :: 5 :: t_Mo_hold_22
abbrev t_Mo_hold_18 : List UInt8 := 5 :: t_Mo_hold_19
abbrev t_Mo_hold_15 : List UInt8 := 180 :: 0 :: 162 :: t_Mo_hold_18
abbrev t_Mo_hold_14 : List UInt8 := 42 :: t_Mo_hold_15
abbrev t_Mo_hold_11 : List UInt8 := 167 :: 0 :: 11 :: t_Mo_hold_14
abbrev t_Mo_hold_8 : List UInt8 := 153 :: 0 :: 16 :: t_Mo_hold_11
abbrev t_Mo_hold_5 : List UInt8 := 180 :: 0 :: 162 :: t_Mo_hold_8
abbrev t_Mo_hold_4 : List UInt8 := 42 :: t_Mo_hold_5
abbrev t_Mo_hold_1 : List UInt8 := 153 :: 0 :: 13 :: t_Mo_hold_4
abbrev t_Mo_hold_0 : List UInt8 := 27 :: t_Mo_hold_1
theorem a_Mo_hold_0 : dk_at b_Mo_hold 0 t_Mo_hold_0 := dk_start (by decide +kernel)
theorem a_Mo_hold_1 : dk_at b_Mo_hold 1 t_Mo_hold_1 := dk_go 1 a_Mo_hold_0 rfl
theorem a_Mo_hold_4 : dk_at b_Mo_hold 4 t_Mo_hold_4 := dk_go 3 a_Mo_hold_1 rfl
theorem a_Mo_hold_5 : dk_at b_Mo_hold 5 t_Mo_hold_5 := dk_go 1 a_Mo_hold_4 rfl
theorem a_Mo_hold_8 : dk_at b_Mo_hold 8 t_Mo_hold_8 := dk_go 3 a_Mo_hold_5 rfl
theorem a_Mo_hold_11 : dk_at b_Mo_hold 11 t_Mo_hold_11 := dk_go 3 a_Mo_hold_8 rfl
theorem a_Mo_hold_14 : dk_at b_Mo_hold 14 t_Mo_hold_14 := dk_go 3 a_Mo_hold_11 rfl
theorem a_Mo_hold_15 : dk_at b_Mo_hold 15 t_Mo_hold_15 := dk_go 1 a_Mo_hold_14 rfl
theorem a_Mo_hold_18 : dk_at b_Mo_hold 18 t_Mo_hold_18 := dk_go 3 a_Mo_hold_15 rfl
theorem a_Mo_hold_19 : dk_at b_Mo_hold 19 t_Mo_hold_19 := dk_go 1 a_Mo_hold_18 rfl
theorem a_Mo_hold_22 : dk_at b_Mo_hold 22 t_Mo_hold_22 := dk_go 3 a_Mo_hold_19 rfl
theorem a_Mo_hold_23 : dk_at b_Mo_hold 23 t_Mo_hold_23 := dk_go 1 a_Mo_hold_22 rfl
theorem a_Mo_hold_24 : dk_at b_Mo_hold 24 t_Mo_hold_24 := dk_go 1 a_Mo_hold_23 rfl
theorem a_Mo_hold_25 : dk_at b_Mo_hold 25 t_Mo_hold_25 := dk_go 1 a_Mo_hold_24 rfl
theorem a_Mo_hold_26 : dk_at b_Mo_hold 26 t_Mo_hold_26 := dk_go 1 a_Mo_hold_25 rfl
theorem a_Mo_hold_29 : dk_at b_Mo_hold 29 t_Mo_hold_29 := dk_go 3 a_Mo_hold_26 rfl
theorem a_Mo_hold_30 : dk_at b_Mo_hold 30 t_Mo_hold_30 := dk_go 1 a_Mo_hold_29 rfl
theorem a_Mo_hold_33 : dk_at b_Mo_hold 33 t_Mo_hold_33 := dk_go 3 a_Mo_hold_30 rfl
theorem a_Mo_hold_34 : dk_at b_Mo_hold 34 t_Mo_hold_34 := dk_go 1 a_Mo_hold_33 rfl
theorem a_Mo_hold_37 : dk_at b_Mo_hold 37 t_Mo_hold_37 := dk_go 3 a_Mo_hold_34 rfl
theorem a_Mo_hold_38 : dk_at b_Mo_hold 38 t_Mo_hold_38 := dk_go 1 a_Mo_hold_37 rfl
theorem a_Mo_hold_41 : dk_at b_Mo_hold 41 t_Mo_hold_41 := dk_go 3 a_Mo_hold_38 rfl
theorem a_Mo_hold_42 : dk_at b_Mo_hold 42 t_Mo_hold_42 := dk_go 1 a_Mo_hold_41 rfl
theorem a_Mo_hold_45 : dk_at b_Mo_hold 45 t_Mo_hold_45 := dk_go 3 a_Mo_hold_42 rfl
theorem a_Mo_hold_46 : dk_at b_Mo_hold 46 t_Mo_hold_46 := dk_go 1 a_Mo_hold_45 rfl
theorem d_Mo_hold_0 : decode b_Mo_hold 0 = .ok (.iload_n 1, 1) := dk_0 a_Mo_hold_0 (dko_27 _)
theorem d_Mo_hold_1 : decode b_Mo_hold 1 = .ok (.ifCond .eq 13, 3) := dk_S2 a_Mo_hold_1 (dko_153 _) (by decide +kernel)
theorem d_Mo_hold_4 : decode b_Mo_hold 4 = .ok (.aload_n 0, 1) := dk_0 a_Mo_hold_4 (dko_42 _)
theorem d_Mo_hold_5 : decode b_Mo_hold 5 = .ok (.getfield 162, 3) := dk_U2 a_Mo_hold_5 (dko_180 _) rfl
theorem d_Mo_hold_8 : decode b_Mo_hold 8 = .ok (.ifCond .eq 16, 3) := dk_S2 a_Mo_hold_8 (dko_153 _) (by decide +kernel)
theorem d_Mo_hold_11 : decode b_Mo_hold 11 = .ok (.goto 11, 3) := dk_S2 a_Mo_hold_11 (dko_167 _) (by decide +kernel)
theorem d_Mo_hold_14 : decode b_Mo_hold 14 = .ok (.aload_n 0, 1) := dk_0 a_Mo_hold_14 (dko_42 _)
theorem d_Mo_hold_15 : decode b_Mo_hold 15 = .ok (.getfield 162, 3) := dk_U2 a_Mo_hold_15 (dko_180 _) rfl
theorem d_Mo_hold_18 : decode b_Mo_hold 18 = .ok (.iconst 2, 1) := dk_0 a_Mo_hold_18 (dko_5 _)
theorem d_Mo_hold_19 : decode b_Mo_hold 19 = .ok (.if_icmp .eq 5, 3) := dk_S2 a_Mo_hold_19 (dko_159 _) (by decide +kernel)
theorem d_Mo_hold_22 : decode b_Mo_hold 22 = .ok (.iconst 0, 1) := dk_0 a_Mo_hold_22 (dko_3 _)
theorem d_Mo_hold_23 : decode b_Mo_hold 23 = .ok (.ireturn, 1) := dk_0 a_Mo_hold_23 (dko_172 _)
theorem d_Mo_hold_24 : decode b_Mo_hold 24 = .ok (.aload_n 0, 1) := dk_0 a_Mo_hold_24 (dko_42 _)
theorem d_Mo_hold_25 : decode b_Mo_hold 25 = .ok (.iload_n 1, 1) := dk_0 a_Mo_hold_25 (dko_27 _)
theorem d_Mo_hold_26 : decode b_Mo_hold 26 = .ok (.ifCond .eq 7, 3) := dk_S2 a_Mo_hold_26 (dko_153 _) (by decide +kernel)
theorem d_Mo_hold_29 : decode b_Mo_hold 29 = .ok (.iconst 2, 1) := dk_0 a_Mo_hold_29 (dko_5 _)
theorem d_Mo_hold_30 : decode b_Mo_hold 30 = .ok (.goto 4, 3) := dk_S2 a_Mo_hold_30 (dko_167 _) (by decide +kernel)
theorem d_Mo_hold_33 : decode b_Mo_hold 33 = .ok (.iconst 0, 1) := dk_0 a_Mo_hold_33 (dko_3 _)
theorem d_Mo_hold_34 : decode b_Mo_hold 34 = .ok (.putfield 162, 3) := dk_U2 a_Mo_hold_34 (dko_181 _) rfl
theorem d_Mo_hold_37 : decode b_Mo_hold 37 = .ok (.iload_n 1, 1) := dk_0 a_Mo_hold_37 (dko_27 _)
theorem d_Mo_hold_38 : decode b_Mo_hold 38 = .ok (.ifCond .eq 7, 3) := dk_S2 a_Mo_hold_38 (dko_153 _) (by decide +kernel)
theorem d_Mo_hold_41 : decode b_Mo_hold 41 = .ok (.aload_n 0, 1) := dk_0 a_Mo_hold_41 (dko_42 _)
theorem d_Mo_hold_42 : decode b_Mo_hold 42 = .ok (.invokevirtual 231, 3) := dk_U2 a_Mo_hold_42 (dko_182 _) rfl
theorem d_Mo_hold_45 : decode b_Mo_hold 45 = .ok (.iconst 1, 1) := dk_0 a_Mo_hold_45 (dko_4 _)
theorem d_Mo_hold_46 : decode b_Mo_hold 46 = .ok (.ireturn, 1) := dk_0 a_Mo_hold_46 (dko_172 _)
set_option maxHeartbeats 4000000 in
set_option maxRecDepth 100000 in
theorem ok_Mo_hold (pc : Nat) : OpS mt mi_Mo_hold pc (cs_Mo_hold pc) := (os_n (os_n (os_n (os_n (os_l (so_iload_n d_Mo_hold_0 rfl)) (os_n (os_l (so_ifeq d_Mo_hold_1 (by decide))) (os_l (so_aload_n d_Mo_hold_4 rfl)))) (os_n (os_l (so_get (C := R_Mo) (T := F_Mo) (N := 87) (j := 59) in_Mo rfl (by decide) mw_1853 d_Mo_hold_5)) (os_n (os_l (so_ifeq d_Mo_hold_8 (by decide))) (os_l (so_goto d_Mo_hold_11 (by decide)))))) (os_n (os_n (os_l (so_aload_n d_Mo_hold_14 rfl)) (os_n (os_l (so_get (C := R_Mo) (T := F_Mo) (N := 87) (j := 59) in_Mo rfl (by decide) mw_1853 d_Mo_hold_15)) (os_l (so_iconst d_Mo_hold_18 (by decide))))) (os_n (os_l (so_iceq d_Mo_hold_19 (by decide))) (os_n (os_l (so_iconst d_Mo_hold_22 (by decide))) (os_l (so_zreturn rfl d_Mo_hold_23)))))) (os_n (os_n (os_n (os_l (so_aload_n d_Mo_hold_24 rfl)) (os_n (os_l (so_iload_n d_Mo_hold_25 rfl)) (os_l (so_ifeq d_Mo_hold_26 (by decide))))) (os_n (os_l (so_iconst d_Mo_hold_29 (by decide))) (os_n (os_l (so_goto d_Mo_hold_30 (by decide))) (os_l (so_iconst d_Mo_hold_33 (by decide)))))) (os_n (os_n (os_l (so_putI (C := R_Mo) (T := F_Mo) (N := 87) (j := 59) in_Mo t_Mo_ok n_Mo rfl (by decide) mw_1853 rfl (by decide +kernel) d_Mo_hold_34)) (os_n (os_l (so_iload_n d_Mo_hold_37 rfl)) (os_l (so_ifeq d_Mo_hold_38 (by decide))))) (os_n (os_n (os_l (so_aload_n d_Mo_hold_41 rfl)) (os_l (so_callV (iv := mi_Mo_closeAll) rfl rfl rfl mw_2335 mw_2337 sl_139 mw_18 mw_2338 ⟨by decide +kernel, by decide +kernel, by decide +kernel⟩ (by decide) d_Mo_hold_42))) (os_n (os_l (so_iconst d_Mo_hold_45 (by decide))) (os_l (so_zreturn rfl d_Mo_hold_46)))))))
abbrev t_Mo_stop_27 : List UInt8 := 172 :: []
abbrev t_Mo_stop_26 : List UInt8 := 4 :: t_Mo_stop_27
abbrev t_Mo_stop_23 : List UInt8 := 182 :: 0 :: 231 :: t_Mo_stop_26
abbrev t_Mo_stop_22 : List UInt8 := 42 :: t_Mo_stop_23
abbrev t_Mo_stop_19 : List UInt8 := 181 :: 0 :: 162 :: t_Mo_stop_22
abbrev t_Mo_stop_18 : List UInt8 := 6 :: t_Mo_stop_19
abbrev t_Mo_stop_17 : List UInt8 := 42 :: t_Mo_stop_18
abbrev t_Mo_stop_16 : List UInt8 := 172 :: t_Mo_stop_17
abbrev t_Mo_stop_15 : List UInt8 := 3 :: t_Mo_stop_16
abbrev t_Mo_stop_12 : List UInt8 := 159 :: 0 :: 5 :: t_Mo_stop_15
abbrev t_Mo_stop_11 : List UInt8 := 5 :: t_Mo_stop_12
abbrev t_Mo_stop_8 : List UInt8 := 180 :: 0 :: 162 :: t_Mo_stop_11
abbrev t_Mo_stop_7 : List UInt8 := 42 :: t_Mo_stop_8
abbrev t_Mo_stop_4 : List UInt8 := 153 :: 0 :: 13 :: t_Mo_stop_7
abbrev t_Mo_stop_1 : List UInt8 := 180 :: 0 :: 162 :: t_Mo_stop_4
abbrev t_Mo_stop_0 : List UInt8 := 42 :: t_Mo_stop_1
theorem a_Mo_stop_0 : dk_at b_Mo_stop 0 t_Mo_stop_0 := dk_start (by decide +kernel)
theorem a_Mo_stop_1 : dk_at b_Mo_stop 1 t_Mo_stop_1 := dk_go 1 a_Mo_stop_0 rfl
theorem a_Mo_stop_4 : dk_at b_Mo_stop 4 t_Mo_stop_4 := dk_go 3 a_Mo_stop_1 rfl
theorem a_Mo_stop_7 : dk_at b_Mo_stop 7 t_Mo_stop_7 := dk_go 3 a_Mo_stop_4 rfl
theorem a_Mo_stop_8 : dk_at b_Mo_stop 8 t_Mo_stop_8 := dk_go 1 a_Mo_stop_7 rfl
theorem a_Mo_stop_11 : dk_at b_Mo_stop 11 t_Mo_stop_11 := dk_go 3 a_Mo_stop_8 rfl
theorem a_Mo_stop_12 : dk_at b_Mo_stop 12 t_Mo_stop_12 := dk_go 1 a_Mo_stop_11 rfl
theorem a_Mo_stop_15 : dk_at b_Mo_stop 15 t_Mo_stop_15 := dk_go 3 a_Mo_stop_12 rfl
theorem a_Mo_stop_16 : dk_at b_Mo_stop 16 t_Mo_stop_16 := dk_go 1 a_Mo_stop_15 rfl
theorem a_Mo_stop_17 : dk_at b_Mo_stop 17 t_Mo_stop_17 := dk_go 1 a_Mo_stop_16 rfl
theorem a_Mo_stop_18 : dk_at b_Mo_stop 18 t_Mo_stop_18 := dk_go 1 a_Mo_stop_17 rfl
theorem a_Mo_stop_19 : dk_at b_Mo_stop 19 t_Mo_stop_19 := dk_go 1 a_Mo_stop_18 rfl
theorem a_Mo_stop_22 : dk_at b_Mo_stop 22 t_Mo_stop_22 := dk_go 3 a_Mo_stop_19 rfl
theorem a_Mo_stop_23 : dk_at b_Mo_stop 23 t_Mo_stop_23 := dk_go 1 a_Mo_stop_22 rfl
theorem a_Mo_stop_26 : dk_at b_Mo_stop 26 t_Mo_stop_26 := dk_go 3 a_Mo_stop_23 rfl
theorem a_Mo_stop_27 : dk_at b_Mo_stop 27 t_Mo_stop_27 := dk_go 1 a_Mo_stop_26 rfl
theorem d_Mo_stop_0 : decode b_Mo_stop 0 = .ok (.aload_n 0, 1) := dk_0 a_Mo_stop_0 (dko_42 _)
theorem d_Mo_stop_1 : decode b_Mo_stop 1 = .ok (.getfield 162, 3) := dk_U2 a_Mo_stop_1 (dko_180 _) rfl
theorem d_Mo_stop_4 : decode b_Mo_stop 4 = .ok (.ifCond .eq 13, 3) := dk_S2 a_Mo_stop_4 (dko_153 _) (by decide +kernel)
theorem d_Mo_stop_7 : decode b_Mo_stop 7 = .ok (.aload_n 0, 1) := dk_0 a_Mo_stop_7 (dko_42 _)
theorem d_Mo_stop_8 : decode b_Mo_stop 8 = .ok (.getfield 162, 3) := dk_U2 a_Mo_stop_8 (dko_180 _) rfl
theorem d_Mo_stop_11 : decode b_Mo_stop 11 = .ok (.iconst 2, 1) := dk_0 a_Mo_stop_11 (dko_5 _)
theorem d_Mo_stop_12 : decode b_Mo_stop 12 = .ok (.if_icmp .eq 5, 3) := dk_S2 a_Mo_stop_12 (dko_159 _) (by decide +kernel)
theorem d_Mo_stop_15 : decode b_Mo_stop 15 = .ok (.iconst 0, 1) := dk_0 a_Mo_stop_15 (dko_3 _)
theorem d_Mo_stop_16 : decode b_Mo_stop 16 = .ok (.ireturn, 1) := dk_0 a_Mo_stop_16 (dko_172 _)
theorem d_Mo_stop_17 : decode b_Mo_stop 17 = .ok (.aload_n 0, 1) := dk_0 a_Mo_stop_17 (dko_42 _)
theorem d_Mo_stop_18 : decode b_Mo_stop 18 = .ok (.iconst 3, 1) := dk_0 a_Mo_stop_18 (dko_6 _)
theorem d_Mo_stop_19 : decode b_Mo_stop 19 = .ok (.putfield 162, 3) := dk_U2 a_Mo_stop_19 (dko_181 _) rfl
theorem d_Mo_stop_22 : decode b_Mo_stop 22 = .ok (.aload_n 0, 1) := dk_0 a_Mo_stop_22 (dko_42 _)
theorem d_Mo_stop_23 : decode b_Mo_stop 23 = .ok (.invokevirtual 231, 3) := dk_U2 a_Mo_stop_23 (dko_182 _) rfl
theorem d_Mo_stop_26 : decode b_Mo_stop 26 = .ok (.iconst 1, 1) := dk_0 a_Mo_stop_26 (dko_4 _)
theorem d_Mo_stop_27 : decode b_Mo_stop 27 = .ok (.ireturn, 1) := dk_0 a_Mo_stop_27 (dko_172 _)
set_option maxHeartbeats 4000000 in
set_option maxRecDepth 100000 in
theorem ok_Mo_stop (pc : Nat) : OpS mt mi_Mo_stop pc (cs_Mo_stop pc) := (os_n (os_n (os_n (os_n (os_l (so_aload_n d_Mo_stop_0 rfl)) (os_l (so_get (C := R_Mo) (T := F_Mo) (N := 87) (j := 59) in_Mo rfl (by decide) mw_1853 d_Mo_stop_1))) (os_n (os_l (so_ifeq d_Mo_stop_4 (by decide))) (os_l (so_aload_n d_Mo_stop_7 rfl)))) (os_n (os_n (os_l (so_get (C := R_Mo) (T := F_Mo) (N := 87) (j := 59) in_Mo rfl (by decide) mw_1853 d_Mo_stop_8)) (os_l (so_iconst d_Mo_stop_11 (by decide)))) (os_n (os_l (so_iceq d_Mo_stop_12 (by decide))) (os_l (so_iconst d_Mo_stop_15 (by decide)))))) (os_n (os_n (os_n (os_l (so_zreturn rfl d_Mo_stop_16)) (os_l (so_aload_n d_Mo_stop_17 rfl))) (os_n (os_l (so_iconst d_Mo_stop_18 (by decide))) (os_l (so_putI (C := R_Mo) (T := F_Mo) (N := 87) (j := 59) in_Mo t_Mo_ok n_Mo rfl (by decide) mw_1853 rfl (by decide +kernel) d_Mo_stop_19)))) (os_n (os_n (os_l (so_aload_n d_Mo_stop_22 rfl)) (os_l (so_callV (iv := mi_Mo_closeAll) rfl rfl rfl mw_2335 mw_2337 sl_139 mw_18 mw_2338 ⟨by decide +kernel, by decide +kernel, by decide +kernel⟩ (by decide) d_Mo_stop_23))) (os_n (os_l (so_iconst d_Mo_stop_26 (by decide))) (os_l (so_zreturn rfl d_Mo_stop_27))))))
abbrev t_Mo_state_4 : List UInt8 := 172 :: []
abbrev t_Mo_state_1 : List UInt8 := 180 :: 0 :: 162 :: t_Mo_state_4
abbrev t_Mo_state_0 : List UInt8 := 42 :: t_Mo_state_1
theorem a_Mo_state_0 : dk_at b_Mo_state 0 t_Mo_state_0 := dk_start (by decide +kernel)
theorem a_Mo_state_1 : dk_at b_Mo_state 1 t_Mo_state_1 := dk_go 1 a_Mo_state_0 rfl
theorem a_Mo_state_4 : dk_at b_Mo_state 4 t_Mo_state_4 := dk_go 3 a_Mo_state_1 rfl
theorem d_Mo_state_0 : decode b_Mo_state 0 = .ok (.aload_n 0, 1) := dk_0 a_Mo_state_0 (dko_42 _)
theorem d_Mo_state_1 : decode b_Mo_state 1 = .ok (.getfield 162, 3) := dk_U2 a_Mo_state_1 (dko_180 _) rfl
theorem d_Mo_state_4 : decode b_Mo_state 4 = .ok (.ireturn, 1) := dk_0 a_Mo_state_4 (dko_172 _)
set_option maxHeartbeats 4000000 in
set_option maxRecDepth 100000 in
theorem ok_Mo_state (pc : Nat) : OpS mt mi_Mo_state pc (cs_Mo_state pc) := (os_n (os_l (so_aload_n d_Mo_state_0 rfl)) (os_n (os_l (so_get (C := R_Mo) (T := F_Mo) (N := 87) (j := 59) in_Mo rfl (by decide) mw_1853 d_Mo_state_1)) (os_l (so_ireturn rfl d_Mo_state_4))))
abbrev t_Mo_still_50 : List UInt8 := 172 :: []
abbrev t_Mo_still_49 : List UInt8 := 46 :: t_Mo_still_50
abbrev t_Mo_still_48 : List UInt8 := 28 :: t_Mo_still_49
abbrev t_Mo_still_45 : List UInt8 := 180 :: 0 :: 166 :: t_Mo_still_48
abbrev t_Mo_still_44 : List UInt8 := 42 :: t_Mo_still_45
abbrev t_Mo_still_41 : List UInt8 := 167 :: 0 :: 9 :: t_Mo_still_44
abbrev t_Mo_still_40 : List UInt8 := 2 :: t_Mo_still_41
abbrev t_Mo_still_37 : List UInt8 := 160 :: 0 :: 7 :: t_Mo_still_40
abbrev t_Mo_still_36 : List UInt8 := 2 :: t_Mo_still_37
abbrev t_Mo_still_35 : List UInt8 := 28 :: t_Mo_still_36
abbrev t_Mo_still_34 : List UInt8 := 61 :: t_Mo_still_35
abbrev t_Mo_still_33 : List UInt8 := 2 :: t_Mo_still_34
abbrev t_Mo_still_30 : List UInt8 := 167 :: 0 :: 4 :: t_Mo_still_33
abbrev t_Mo_still_27 : List UInt8 := 182 :: 2 :: 60 :: t_Mo_still_30
abbrev t_Mo_still_26 : List UInt8 := 3 :: t_Mo_still_27
abbrev t_Mo_still_25 : List UInt8 := 3 :: t_Mo_still_26
abbrev t_Mo_still_24 : List UInt8 := 42 :: t_Mo_still_25
abbrev t_Mo_still_21 : List UInt8 := 160 :: 0 :: 12 :: t_Mo_still_24
abbrev t_Mo_still_20 : List UInt8 := 5 :: t_Mo_still_21
abbrev t_Mo_still_17 : List UInt8 := 180 :: 0 :: 162 :: t_Mo_still_20
abbrev t_Mo_still_16 : List UInt8 := 42 :: t_Mo_still_17
abbrev t_Mo_still_13 : List UInt8 := 153 :: 0 :: 11 :: t_Mo_still_16
abbrev t_Mo_still_10 : List UInt8 := 180 :: 0 :: 162 :: t_Mo_still_13
abbrev t_Mo_still_9 : List UInt8 := 42 :: t_Mo_still_10
abbrev t_Mo_still_6 : List UInt8 := 155 :: 0 :: 27 :: t_Mo_still_9
abbrev t_Mo_still_5 : List UInt8 := 27 :: t_Mo_still_6
abbrev t_Mo_still_2 : List UInt8 := 181 :: 2 :: 64 :: t_Mo_still_5
abbrev t_Mo_still_1 : List UInt8 := 27 :: t_Mo_still_2
abbrev t_Mo_still_0 : List UInt8 := 42 :: t_Mo_still_1
theorem a_Mo_still_0 : dk_at b_Mo_still 0 t_Mo_still_0 := dk_start (by decide +kernel)
theorem a_Mo_still_1 : dk_at b_Mo_still 1 t_Mo_still_1 := dk_go 1 a_Mo_still_0 rfl
theorem a_Mo_still_2 : dk_at b_Mo_still 2 t_Mo_still_2 := dk_go 1 a_Mo_still_1 rfl
theorem a_Mo_still_5 : dk_at b_Mo_still 5 t_Mo_still_5 := dk_go 3 a_Mo_still_2 rfl
theorem a_Mo_still_6 : dk_at b_Mo_still 6 t_Mo_still_6 := dk_go 1 a_Mo_still_5 rfl
theorem a_Mo_still_9 : dk_at b_Mo_still 9 t_Mo_still_9 := dk_go 3 a_Mo_still_6 rfl
theorem a_Mo_still_10 : dk_at b_Mo_still 10 t_Mo_still_10 := dk_go 1 a_Mo_still_9 rfl
theorem a_Mo_still_13 : dk_at b_Mo_still 13 t_Mo_still_13 := dk_go 3 a_Mo_still_10 rfl
theorem a_Mo_still_16 : dk_at b_Mo_still 16 t_Mo_still_16 := dk_go 3 a_Mo_still_13 rfl
theorem a_Mo_still_17 : dk_at b_Mo_still 17 t_Mo_still_17 := dk_go 1 a_Mo_still_16 rfl
theorem a_Mo_still_20 : dk_at b_Mo_still 20 t_Mo_still_20 := dk_go 3 a_Mo_still_17 rfl
theorem a_Mo_still_21 : dk_at b_Mo_still 21 t_Mo_still_21 := dk_go 1 a_Mo_still_20 rfl
theorem a_Mo_still_24 : dk_at b_Mo_still 24 t_Mo_still_24 := dk_go 3 a_Mo_still_21 rfl
theorem a_Mo_still_25 : dk_at b_Mo_still 25 t_Mo_still_25 := dk_go 1 a_Mo_still_24 rfl
theorem a_Mo_still_26 : dk_at b_Mo_still 26 t_Mo_still_26 := dk_go 1 a_Mo_still_25 rfl
theorem a_Mo_still_27 : dk_at b_Mo_still 27 t_Mo_still_27 := dk_go 1 a_Mo_still_26 rfl
theorem a_Mo_still_30 : dk_at b_Mo_still 30 t_Mo_still_30 := dk_go 3 a_Mo_still_27 rfl
theorem a_Mo_still_33 : dk_at b_Mo_still 33 t_Mo_still_33 := dk_go 3 a_Mo_still_30 rfl
theorem a_Mo_still_34 : dk_at b_Mo_still 34 t_Mo_still_34 := dk_go 1 a_Mo_still_33 rfl
theorem a_Mo_still_35 : dk_at b_Mo_still 35 t_Mo_still_35 := dk_go 1 a_Mo_still_34 rfl
theorem a_Mo_still_36 : dk_at b_Mo_still 36 t_Mo_still_36 := dk_go 1 a_Mo_still_35 rfl
theorem a_Mo_still_37 : dk_at b_Mo_still 37 t_Mo_still_37 := dk_go 1 a_Mo_still_36 rfl
theorem a_Mo_still_40 : dk_at b_Mo_still 40 t_Mo_still_40 := dk_go 3 a_Mo_still_37 rfl
theorem a_Mo_still_41 : dk_at b_Mo_still 41 t_Mo_still_41 := dk_go 1 a_Mo_still_40 rfl
theorem a_Mo_still_44 : dk_at b_Mo_still 44 t_Mo_still_44 := dk_go 3 a_Mo_still_41 rfl
theorem a_Mo_still_45 : dk_at b_Mo_still 45 t_Mo_still_45 := dk_go 1 a_Mo_still_44 rfl
theorem a_Mo_still_48 : dk_at b_Mo_still 48 t_Mo_still_48 := dk_go 3 a_Mo_still_45 rfl
theorem a_Mo_still_49 : dk_at b_Mo_still 49 t_Mo_still_49 := dk_go 1 a_Mo_still_48 rfl
theorem a_Mo_still_50 : dk_at b_Mo_still 50 t_Mo_still_50 := dk_go 1 a_Mo_still_49 rfl
theorem d_Mo_still_0 : decode b_Mo_still 0 = .ok (.aload_n 0, 1) := dk_0 a_Mo_still_0 (dko_42 _)
theorem d_Mo_still_1 : decode b_Mo_still 1 = .ok (.iload_n 1, 1) := dk_0 a_Mo_still_1 (dko_27 _)
theorem d_Mo_still_2 : decode b_Mo_still 2 = .ok (.putfield 576, 3) := dk_U2 a_Mo_still_2 (dko_181 _) rfl
theorem d_Mo_still_5 : decode b_Mo_still 5 = .ok (.iload_n 1, 1) := dk_0 a_Mo_still_5 (dko_27 _)
theorem d_Mo_still_6 : decode b_Mo_still 6 = .ok (.ifCond .lt 27, 3) := dk_S2 a_Mo_still_6 (dko_155 _) (by decide +kernel)
theorem d_Mo_still_9 : decode b_Mo_still 9 = .ok (.aload_n 0, 1) := dk_0 a_Mo_still_9 (dko_42 _)
theorem d_Mo_still_10 : decode b_Mo_still 10 = .ok (.getfield 162, 3) := dk_U2 a_Mo_still_10 (dko_180 _) rfl
theorem d_Mo_still_13 : decode b_Mo_still 13 = .ok (.ifCond .eq 11, 3) := dk_S2 a_Mo_still_13 (dko_153 _) (by decide +kernel)
theorem d_Mo_still_16 : decode b_Mo_still 16 = .ok (.aload_n 0, 1) := dk_0 a_Mo_still_16 (dko_42 _)
theorem d_Mo_still_17 : decode b_Mo_still 17 = .ok (.getfield 162, 3) := dk_U2 a_Mo_still_17 (dko_180 _) rfl
theorem d_Mo_still_20 : decode b_Mo_still 20 = .ok (.iconst 2, 1) := dk_0 a_Mo_still_20 (dko_5 _)
theorem d_Mo_still_21 : decode b_Mo_still 21 = .ok (.if_icmp .ne 12, 3) := dk_S2 a_Mo_still_21 (dko_160 _) (by decide +kernel)
theorem d_Mo_still_24 : decode b_Mo_still 24 = .ok (.aload_n 0, 1) := dk_0 a_Mo_still_24 (dko_42 _)
theorem d_Mo_still_25 : decode b_Mo_still 25 = .ok (.iconst 0, 1) := dk_0 a_Mo_still_25 (dko_3 _)
theorem d_Mo_still_26 : decode b_Mo_still 26 = .ok (.iconst 0, 1) := dk_0 a_Mo_still_26 (dko_3 _)
theorem d_Mo_still_27 : decode b_Mo_still 27 = .ok (.invokevirtual 572, 3) := dk_U2 a_Mo_still_27 (dko_182 _) rfl
theorem d_Mo_still_30 : decode b_Mo_still 30 = .ok (.goto 4, 3) := dk_S2 a_Mo_still_30 (dko_167 _) (by decide +kernel)
theorem d_Mo_still_33 : decode b_Mo_still 33 = .ok (.iconst (-1), 1) := dk_0 a_Mo_still_33 (dko_2 _)
theorem d_Mo_still_34 : decode b_Mo_still 34 = .ok (.istore_n 2, 1) := dk_0 a_Mo_still_34 (dko_61 _)
theorem d_Mo_still_35 : decode b_Mo_still 35 = .ok (.iload_n 2, 1) := dk_0 a_Mo_still_35 (dko_28 _)
theorem d_Mo_still_36 : decode b_Mo_still 36 = .ok (.iconst (-1), 1) := dk_0 a_Mo_still_36 (dko_2 _)
theorem d_Mo_still_37 : decode b_Mo_still 37 = .ok (.if_icmp .ne 7, 3) := dk_S2 a_Mo_still_37 (dko_160 _) (by decide +kernel)
theorem d_Mo_still_40 : decode b_Mo_still 40 = .ok (.iconst (-1), 1) := dk_0 a_Mo_still_40 (dko_2 _)
theorem d_Mo_still_41 : decode b_Mo_still 41 = .ok (.goto 9, 3) := dk_S2 a_Mo_still_41 (dko_167 _) (by decide +kernel)
theorem d_Mo_still_44 : decode b_Mo_still 44 = .ok (.aload_n 0, 1) := dk_0 a_Mo_still_44 (dko_42 _)
theorem d_Mo_still_45 : decode b_Mo_still 45 = .ok (.getfield 166, 3) := dk_U2 a_Mo_still_45 (dko_180 _) rfl
theorem d_Mo_still_48 : decode b_Mo_still 48 = .ok (.iload_n 2, 1) := dk_0 a_Mo_still_48 (dko_28 _)
theorem d_Mo_still_49 : decode b_Mo_still 49 = .ok (.iaload, 1) := dk_0 a_Mo_still_49 (dko_46 _)
theorem d_Mo_still_50 : decode b_Mo_still 50 = .ok (.ireturn, 1) := dk_0 a_Mo_still_50 (dko_172 _)
set_option maxHeartbeats 4000000 in
set_option maxRecDepth 100000 in
theorem ok_Mo_still (pc : Nat) : OpS mt mi_Mo_still pc (cs_Mo_still pc) := (os_n (os_n (os_n (os_n (os_l (so_aload_n d_Mo_still_0 rfl)) (os_n (os_l (so_iload_n d_Mo_still_1 rfl)) (os_l (so_putI (C := R_Mo) (T := F_Mo) (N := 87) (j := 77) in_Mo t_Mo_ok n_Mo rfl (by decide) mw_1871 rfl (by decide +kernel) d_Mo_still_2)))) (os_n (os_n (os_l (so_iload_n d_Mo_still_5 rfl)) (os_l (so_iflt d_Mo_still_6 (by decide)))) (os_n (os_l (so_aload_n d_Mo_still_9 rfl)) (os_l (so_get (C := R_Mo) (T := F_Mo) (N := 87) (j := 59) in_Mo rfl (by decide) mw_1853 d_Mo_still_10))))) (os_n (os_n (os_l (so_ifeq d_Mo_still_13 (by decide))) (os_n (os_l (so_aload_n d_Mo_still_16 rfl)) (os_l (so_get (C := R_Mo) (T := F_Mo) (N := 87) (j := 59) in_Mo rfl (by decide) mw_1853 d_Mo_still_17)))) (os_n (os_n (os_l (so_iconst d_Mo_still_20 (by decide))) (os_l (so_icne d_Mo_still_21 (by decide)))) (os_n (os_l (so_aload_n d_Mo_still_24 rfl)) (os_l (so_iconst d_Mo_still_25 (by decide))))))) (os_n (os_n (os_n (os_l (so_iconst d_Mo_still_26 (by decide))) (os_n (os_l (so_callV (iv := mi_Mo_stillAt) rfl rfl rfl mw_2671 mw_2673 sl_194 mw_18 mw_2674 ⟨by decide +kernel, by decide +kernel, by decide +kernel⟩ (by decide) d_Mo_still_27)) (os_l (so_goto d_Mo_still_30 (by decide))))) (os_n (os_n (os_l (so_iconst d_Mo_still_33 (by decide))) (os_l (so_istore_n d_Mo_still_34 rfl (by decide)))) (os_n (os_l (so_iload_n d_Mo_still_35 rfl)) (os_l (so_iconst d_Mo_still_36 (by decide)))))) (os_n (os_n (os_n (os_l (so_icne d_Mo_still_37 (by decide))) (os_l (so_iconst d_Mo_still_40 (by decide)))) (os_n (os_l (so_goto d_Mo_still_41 (by decide))) (os_l (so_aload_n d_Mo_still_44 rfl)))) (os_n (os_n (os_l (so_get (C := R_Mo) (T := F_Mo) (N := 87) (j := 61) in_Mo rfl (by decide) mw_1855 d_Mo_still_45)) (os_l (so_iload_n d_Mo_still_48 rfl))) (os_n (os_l (so_iaload d_Mo_still_49)) (os_l (so_ireturn rfl d_Mo_still_50)))))))
abbrev t_Mo_alarm_56 : List UInt8 := 172 :: []
abbrev t_Mo_alarm_55 : List UInt8 := 2 :: t_Mo_alarm_56
abbrev t_Mo_alarm_52 : List UInt8 := 167 :: 0 :: 4 :: t_Mo_alarm_55
abbrev t_Mo_alarm_51 : List UInt8 := 46 :: t_Mo_alarm_52
abbrev t_Mo_alarm_50 : List UInt8 := 27 :: t_Mo_alarm_51
abbrev t_Mo_alarm_47 : List UInt8 := 180 :: 0 :: 208 :: t_Mo_alarm_50
abbrev t_Mo_alarm_46 : List UInt8 := 42 :: t_Mo_alarm_47
abbrev t_Mo_alarm_43 : List UInt8 := 160 :: 0 :: 12 :: t_Mo_alarm_46
abbrev t_Mo_alarm_42 : List UInt8 := 5 :: t_Mo_alarm_43
abbrev t_Mo_alarm_41 : List UInt8 := 28 :: t_Mo_alarm_42
abbrev t_Mo_alarm_38 : List UInt8 := 167 :: 0 :: 18 :: t_Mo_alarm_41
abbrev t_Mo_alarm_37 : List UInt8 := 46 :: t_Mo_alarm_38
abbrev t_Mo_alarm_36 : List UInt8 := 27 :: t_Mo_alarm_37
abbrev t_Mo_alarm_33 : List UInt8 := 180 :: 0 :: 205 :: t_Mo_alarm_36
abbrev t_Mo_alarm_32 : List UInt8 := 42 :: t_Mo_alarm_33
abbrev t_Mo_alarm_29 : List UInt8 := 160 :: 0 :: 12 :: t_Mo_alarm_32
abbrev t_Mo_alarm_28 : List UInt8 := 4 :: t_Mo_alarm_29
abbrev t_Mo_alarm_27 : List UInt8 := 28 :: t_Mo_alarm_28
abbrev t_Mo_alarm_24 : List UInt8 := 167 :: 0 :: 32 :: t_Mo_alarm_27
abbrev t_Mo_alarm_23 : List UInt8 := 46 :: t_Mo_alarm_24
abbrev t_Mo_alarm_22 : List UInt8 := 27 :: t_Mo_alarm_23
abbrev t_Mo_alarm_19 : List UInt8 := 180 :: 0 :: 202 :: t_Mo_alarm_22
abbrev t_Mo_alarm_18 : List UInt8 := 42 :: t_Mo_alarm_19
abbrev t_Mo_alarm_15 : List UInt8 := 154 :: 0 :: 12 :: t_Mo_alarm_18
abbrev t_Mo_alarm_14 : List UInt8 := 28 :: t_Mo_alarm_15
abbrev t_Mo_alarm_13 : List UInt8 := 172 :: t_Mo_alarm_14
abbrev t_Mo_alarm_12 : List UInt8 := 2 :: t_Mo_alarm_13
abbrev t_Mo_alarm_9 : List UInt8 := 161 :: 0 :: 5 :: t_Mo_alarm_12
abbrev t_Mo_alarm_6 : List UInt8 := 180 :: 1 :: 177 :: t_Mo_alarm_9
abbrev t_Mo_alarm_5 : List UInt8 := 42 :: t_Mo_alarm_6
abbrev t_Mo_alarm_4 : List UInt8 := 27 :: t_Mo_alarm_5
abbrev t_Mo_alarm_1 : List UInt8 := 155 :: 0 :: 11 :: t_Mo_alarm_4
abbrev t_Mo_alarm_0 : List UInt8 := 27 :: t_Mo_alarm_1
theorem a_Mo_alarm_0 : dk_at b_Mo_alarm 0 t_Mo_alarm_0 := dk_start (by decide +kernel)
theorem a_Mo_alarm_1 : dk_at b_Mo_alarm 1 t_Mo_alarm_1 := dk_go 1 a_Mo_alarm_0 rfl
theorem a_Mo_alarm_4 : dk_at b_Mo_alarm 4 t_Mo_alarm_4 := dk_go 3 a_Mo_alarm_1 rfl
theorem a_Mo_alarm_5 : dk_at b_Mo_alarm 5 t_Mo_alarm_5 := dk_go 1 a_Mo_alarm_4 rfl
theorem a_Mo_alarm_6 : dk_at b_Mo_alarm 6 t_Mo_alarm_6 := dk_go 1 a_Mo_alarm_5 rfl
theorem a_Mo_alarm_9 : dk_at b_Mo_alarm 9 t_Mo_alarm_9 := dk_go 3 a_Mo_alarm_6 rfl
theorem a_Mo_alarm_12 : dk_at b_Mo_alarm 12 t_Mo_alarm_12 := dk_go 3 a_Mo_alarm_9 rfl
theorem a_Mo_alarm_13 : dk_at b_Mo_alarm 13 t_Mo_alarm_13 := dk_go 1 a_Mo_alarm_12 rfl
theorem a_Mo_alarm_14 : dk_at b_Mo_alarm 14 t_Mo_alarm_14 := dk_go 1 a_Mo_alarm_13 rfl
theorem a_Mo_alarm_15 : dk_at b_Mo_alarm 15 t_Mo_alarm_15 := dk_go 1 a_Mo_alarm_14 rfl
theorem a_Mo_alarm_18 : dk_at b_Mo_alarm 18 t_Mo_alarm_18 := dk_go 3 a_Mo_alarm_15 rfl
theorem a_Mo_alarm_19 : dk_at b_Mo_alarm 19 t_Mo_alarm_19 := dk_go 1 a_Mo_alarm_18 rfl
theorem a_Mo_alarm_22 : dk_at b_Mo_alarm 22 t_Mo_alarm_22 := dk_go 3 a_Mo_alarm_19 rfl
theorem a_Mo_alarm_23 : dk_at b_Mo_alarm 23 t_Mo_alarm_23 := dk_go 1 a_Mo_alarm_22 rfl
theorem a_Mo_alarm_24 : dk_at b_Mo_alarm 24 t_Mo_alarm_24 := dk_go 1 a_Mo_alarm_23 rfl
theorem a_Mo_alarm_27 : dk_at b_Mo_alarm 27 t_Mo_alarm_27 := dk_go 3 a_Mo_alarm_24 rfl
theorem a_Mo_alarm_28 : dk_at b_Mo_alarm 28 t_Mo_alarm_28 := dk_go 1 a_Mo_alarm_27 rfl
theorem a_Mo_alarm_29 : dk_at b_Mo_alarm 29 t_Mo_alarm_29 := dk_go 1 a_Mo_alarm_28 rfl
theorem a_Mo_alarm_32 : dk_at b_Mo_alarm 32 t_Mo_alarm_32 := dk_go 3 a_Mo_alarm_29 rfl
theorem a_Mo_alarm_33 : dk_at b_Mo_alarm 33 t_Mo_alarm_33 := dk_go 1 a_Mo_alarm_32 rfl
theorem a_Mo_alarm_36 : dk_at b_Mo_alarm 36 t_Mo_alarm_36 := dk_go 3 a_Mo_alarm_33 rfl
theorem a_Mo_alarm_37 : dk_at b_Mo_alarm 37 t_Mo_alarm_37 := dk_go 1 a_Mo_alarm_36 rfl
theorem a_Mo_alarm_38 : dk_at b_Mo_alarm 38 t_Mo_alarm_38 := dk_go 1 a_Mo_alarm_37 rfl
theorem a_Mo_alarm_41 : dk_at b_Mo_alarm 41 t_Mo_alarm_41 := dk_go 3 a_Mo_alarm_38 rfl
theorem a_Mo_alarm_42 : dk_at b_Mo_alarm 42 t_Mo_alarm_42 := dk_go 1 a_Mo_alarm_41 rfl
theorem a_Mo_alarm_43 : dk_at b_Mo_alarm 43 t_Mo_alarm_43 := dk_go 1 a_Mo_alarm_42 rfl
theorem a_Mo_alarm_46 : dk_at b_Mo_alarm 46 t_Mo_alarm_46 := dk_go 3 a_Mo_alarm_43 rfl
theorem a_Mo_alarm_47 : dk_at b_Mo_alarm 47 t_Mo_alarm_47 := dk_go 1 a_Mo_alarm_46 rfl
theorem a_Mo_alarm_50 : dk_at b_Mo_alarm 50 t_Mo_alarm_50 := dk_go 3 a_Mo_alarm_47 rfl
theorem a_Mo_alarm_51 : dk_at b_Mo_alarm 51 t_Mo_alarm_51 := dk_go 1 a_Mo_alarm_50 rfl
theorem a_Mo_alarm_52 : dk_at b_Mo_alarm 52 t_Mo_alarm_52 := dk_go 1 a_Mo_alarm_51 rfl
theorem a_Mo_alarm_55 : dk_at b_Mo_alarm 55 t_Mo_alarm_55 := dk_go 3 a_Mo_alarm_52 rfl
theorem a_Mo_alarm_56 : dk_at b_Mo_alarm 56 t_Mo_alarm_56 := dk_go 1 a_Mo_alarm_55 rfl
theorem d_Mo_alarm_0 : decode b_Mo_alarm 0 = .ok (.iload_n 1, 1) := dk_0 a_Mo_alarm_0 (dko_27 _)
theorem d_Mo_alarm_1 : decode b_Mo_alarm 1 = .ok (.ifCond .lt 11, 3) := dk_S2 a_Mo_alarm_1 (dko_155 _) (by decide +kernel)
theorem d_Mo_alarm_4 : decode b_Mo_alarm 4 = .ok (.iload_n 1, 1) := dk_0 a_Mo_alarm_4 (dko_27 _)
theorem d_Mo_alarm_5 : decode b_Mo_alarm 5 = .ok (.aload_n 0, 1) := dk_0 a_Mo_alarm_5 (dko_42 _)
theorem d_Mo_alarm_6 : decode b_Mo_alarm 6 = .ok (.getfield 433, 3) := dk_U2 a_Mo_alarm_6 (dko_180 _) rfl
theorem d_Mo_alarm_9 : decode b_Mo_alarm 9 = .ok (.if_icmp .lt 5, 3) := dk_S2 a_Mo_alarm_9 (dko_161 _) (by decide +kernel)
theorem d_Mo_alarm_12 : decode b_Mo_alarm 12 = .ok (.iconst (-1), 1) := dk_0 a_Mo_alarm_12 (dko_2 _)
theorem d_Mo_alarm_13 : decode b_Mo_alarm 13 = .ok (.ireturn, 1) := dk_0 a_Mo_alarm_13 (dko_172 _)
theorem d_Mo_alarm_14 : decode b_Mo_alarm 14 = .ok (.iload_n 2, 1) := dk_0 a_Mo_alarm_14 (dko_28 _)
theorem d_Mo_alarm_15 : decode b_Mo_alarm 15 = .ok (.ifCond .ne 12, 3) := dk_S2 a_Mo_alarm_15 (dko_154 _) (by decide +kernel)
theorem d_Mo_alarm_18 : decode b_Mo_alarm 18 = .ok (.aload_n 0, 1) := dk_0 a_Mo_alarm_18 (dko_42 _)
theorem d_Mo_alarm_19 : decode b_Mo_alarm 19 = .ok (.getfield 202, 3) := dk_U2 a_Mo_alarm_19 (dko_180 _) rfl
theorem d_Mo_alarm_22 : decode b_Mo_alarm 22 = .ok (.iload_n 1, 1) := dk_0 a_Mo_alarm_22 (dko_27 _)
theorem d_Mo_alarm_23 : decode b_Mo_alarm 23 = .ok (.iaload, 1) := dk_0 a_Mo_alarm_23 (dko_46 _)
theorem d_Mo_alarm_24 : decode b_Mo_alarm 24 = .ok (.goto 32, 3) := dk_S2 a_Mo_alarm_24 (dko_167 _) (by decide +kernel)
theorem d_Mo_alarm_27 : decode b_Mo_alarm 27 = .ok (.iload_n 2, 1) := dk_0 a_Mo_alarm_27 (dko_28 _)
theorem d_Mo_alarm_28 : decode b_Mo_alarm 28 = .ok (.iconst 1, 1) := dk_0 a_Mo_alarm_28 (dko_4 _)
theorem d_Mo_alarm_29 : decode b_Mo_alarm 29 = .ok (.if_icmp .ne 12, 3) := dk_S2 a_Mo_alarm_29 (dko_160 _) (by decide +kernel)
theorem d_Mo_alarm_32 : decode b_Mo_alarm 32 = .ok (.aload_n 0, 1) := dk_0 a_Mo_alarm_32 (dko_42 _)
theorem d_Mo_alarm_33 : decode b_Mo_alarm 33 = .ok (.getfield 205, 3) := dk_U2 a_Mo_alarm_33 (dko_180 _) rfl
theorem d_Mo_alarm_36 : decode b_Mo_alarm 36 = .ok (.iload_n 1, 1) := dk_0 a_Mo_alarm_36 (dko_27 _)
theorem d_Mo_alarm_37 : decode b_Mo_alarm 37 = .ok (.iaload, 1) := dk_0 a_Mo_alarm_37 (dko_46 _)
theorem d_Mo_alarm_38 : decode b_Mo_alarm 38 = .ok (.goto 18, 3) := dk_S2 a_Mo_alarm_38 (dko_167 _) (by decide +kernel)
theorem d_Mo_alarm_41 : decode b_Mo_alarm 41 = .ok (.iload_n 2, 1) := dk_0 a_Mo_alarm_41 (dko_28 _)
theorem d_Mo_alarm_42 : decode b_Mo_alarm 42 = .ok (.iconst 2, 1) := dk_0 a_Mo_alarm_42 (dko_5 _)
theorem d_Mo_alarm_43 : decode b_Mo_alarm 43 = .ok (.if_icmp .ne 12, 3) := dk_S2 a_Mo_alarm_43 (dko_160 _) (by decide +kernel)
theorem d_Mo_alarm_46 : decode b_Mo_alarm 46 = .ok (.aload_n 0, 1) := dk_0 a_Mo_alarm_46 (dko_42 _)
theorem d_Mo_alarm_47 : decode b_Mo_alarm 47 = .ok (.getfield 208, 3) := dk_U2 a_Mo_alarm_47 (dko_180 _) rfl
theorem d_Mo_alarm_50 : decode b_Mo_alarm 50 = .ok (.iload_n 1, 1) := dk_0 a_Mo_alarm_50 (dko_27 _)
theorem d_Mo_alarm_51 : decode b_Mo_alarm 51 = .ok (.iaload, 1) := dk_0 a_Mo_alarm_51 (dko_46 _)
theorem d_Mo_alarm_52 : decode b_Mo_alarm 52 = .ok (.goto 4, 3) := dk_S2 a_Mo_alarm_52 (dko_167 _) (by decide +kernel)
theorem d_Mo_alarm_55 : decode b_Mo_alarm 55 = .ok (.iconst (-1), 1) := dk_0 a_Mo_alarm_55 (dko_2 _)
theorem d_Mo_alarm_56 : decode b_Mo_alarm 56 = .ok (.ireturn, 1) := dk_0 a_Mo_alarm_56 (dko_172 _)
set_option maxHeartbeats 4000000 in
set_option maxRecDepth 100000 in
theorem ok_Mo_alarm (pc : Nat) : OpS mt mi_Mo_alarm pc (cs_Mo_alarm pc) := (os_n (os_n (os_n (os_n (os_n (os_l (so_iload_n d_Mo_alarm_0 rfl)) (os_l (so_iflt d_Mo_alarm_1 (by decide)))) (os_n (os_l (so_iload_n d_Mo_alarm_4 rfl)) (os_l (so_aload_n d_Mo_alarm_5 rfl)))) (os_n (os_n (os_l (so_get (C := R_Mo) (T := F_Mo) (N := 87) (j := 79) in_Mo rfl (by decide) mw_1873 d_Mo_alarm_6)) (os_l (so_iclt d_Mo_alarm_9 (by decide)))) (os_n (os_l (so_iconst d_Mo_alarm_12 (by decide))) (os_l (so_ireturn rfl d_Mo_alarm_13))))) (os_n (os_n (os_n (os_l (so_iload_n d_Mo_alarm_14 rfl)) (os_l (so_ifne d_Mo_alarm_15 (by decide)))) (os_n (os_l (so_aload_n d_Mo_alarm_18 rfl)) (os_l (so_get (C := R_Mo) (T := F_Mo) (N := 87) (j := 80) in_Mo rfl (by decide) mw_1874 d_Mo_alarm_19)))) (os_n (os_n (os_l (so_iload_n d_Mo_alarm_22 rfl)) (os_l (so_iaload d_Mo_alarm_23))) (os_n (os_l (so_goto d_Mo_alarm_24 (by decide))) (os_l (so_iload_n d_Mo_alarm_27 rfl)))))) (os_n (os_n (os_n (os_n (os_l (so_iconst d_Mo_alarm_28 (by decide))) (os_l (so_icne d_Mo_alarm_29 (by decide)))) (os_n (os_l (so_aload_n d_Mo_alarm_32 rfl)) (os_l (so_get (C := R_Mo) (T := F_Mo) (N := 87) (j := 81) in_Mo rfl (by decide) mw_1875 d_Mo_alarm_33)))) (os_n (os_n (os_l (so_iload_n d_Mo_alarm_36 rfl)) (os_l (so_iaload d_Mo_alarm_37))) (os_n (os_l (so_goto d_Mo_alarm_38 (by decide))) (os_l (so_iload_n d_Mo_alarm_41 rfl))))) (os_n (os_n (os_n (os_l (so_iconst d_Mo_alarm_42 (by decide))) (os_l (so_icne d_Mo_alarm_43 (by decide)))) (os_n (os_l (so_aload_n d_Mo_alarm_46 rfl)) (os_l (so_get (C := R_Mo) (T := F_Mo) (N := 87) (j := 82) in_Mo rfl (by decide) mw_1876 d_Mo_alarm_47)))) (os_n (os_n (os_l (so_iload_n d_Mo_alarm_50 rfl)) (os_l (so_iaload d_Mo_alarm_51))) (os_n (os_l (so_goto d_Mo_alarm_52 (by decide))) (os_n (os_l (so_iconst d_Mo_alarm_55 (by decide))) (os_l (so_ireturn rfl d_Mo_alarm_56))))))))
abbrev t_Mo_second_4 : List UInt8 := 172 :: []
abbrev t_Mo_second_1 : List UInt8 := 180 :: 1 :: 70 :: t_Mo_second_4
abbrev t_Mo_second_0 : List UInt8 := 42 :: t_Mo_second_1
theorem a_Mo_second_0 : dk_at b_Mo_second 0 t_Mo_second_0 := dk_start (by decide +kernel)
theorem a_Mo_second_1 : dk_at b_Mo_second 1 t_Mo_second_1 := dk_go 1 a_Mo_second_0 rfl
theorem a_Mo_second_4 : dk_at b_Mo_second 4 t_Mo_second_4 := dk_go 3 a_Mo_second_1 rfl
theorem d_Mo_second_0 : decode b_Mo_second 0 = .ok (.aload_n 0, 1) := dk_0 a_Mo_second_0 (dko_42 _)
theorem d_Mo_second_1 : decode b_Mo_second 1 = .ok (.getfield 326, 3) := dk_U2 a_Mo_second_1 (dko_180 _) rfl
theorem d_Mo_second_4 : decode b_Mo_second 4 = .ok (.ireturn, 1) := dk_0 a_Mo_second_4 (dko_172 _)
set_option maxHeartbeats 4000000 in
set_option maxRecDepth 100000 in
theorem ok_Mo_second (pc : Nat) : OpS mt mi_Mo_second pc (cs_Mo_second pc) := (os_n (os_l (so_aload_n d_Mo_second_0 rfl)) (os_n (os_l (so_get (C := R_Mo) (T := F_Mo) (N := 87) (j := 78) in_Mo rfl (by decide) mw_1872 d_Mo_second_1)) (os_l (so_ireturn rfl d_Mo_second_4))))
abbrev t_Ac_isAct_15 : List UInt8 := 172 :: []
abbrev t_Ac_isAct_14 : List UInt8 := 3 :: t_Ac_isAct_15
abbrev t_Ac_isAct_11 : List UInt8 := 167 :: 0 :: 4 :: t_Ac_isAct_14
abbrev t_Ac_isAct_10 : List UInt8 := 4 :: t_Ac_isAct_11
abbrev t_Ac_isAct_7 : List UInt8 := 162 :: 0 :: 7 :: t_Ac_isAct_10
abbrev t_Ac_isAct_5 : List UInt8 := 16 :: 32 :: t_Ac_isAct_7
abbrev t_Ac_isAct_4 : List UInt8 := 26 :: t_Ac_isAct_5
abbrev t_Ac_isAct_1 : List UInt8 := 155 :: 0 :: 13 :: t_Ac_isAct_4
abbrev t_Ac_isAct_0 : List UInt8 := 26 :: t_Ac_isAct_1
theorem a_Ac_isAct_0 : dk_at b_Ac_isAct 0 t_Ac_isAct_0 := dk_start (by decide +kernel)
theorem a_Ac_isAct_1 : dk_at b_Ac_isAct 1 t_Ac_isAct_1 := dk_go 1 a_Ac_isAct_0 rfl
theorem a_Ac_isAct_4 : dk_at b_Ac_isAct 4 t_Ac_isAct_4 := dk_go 3 a_Ac_isAct_1 rfl
theorem a_Ac_isAct_5 : dk_at b_Ac_isAct 5 t_Ac_isAct_5 := dk_go 1 a_Ac_isAct_4 rfl
theorem a_Ac_isAct_7 : dk_at b_Ac_isAct 7 t_Ac_isAct_7 := dk_go 2 a_Ac_isAct_5 rfl
theorem a_Ac_isAct_10 : dk_at b_Ac_isAct 10 t_Ac_isAct_10 := dk_go 3 a_Ac_isAct_7 rfl
theorem a_Ac_isAct_11 : dk_at b_Ac_isAct 11 t_Ac_isAct_11 := dk_go 1 a_Ac_isAct_10 rfl
theorem a_Ac_isAct_14 : dk_at b_Ac_isAct 14 t_Ac_isAct_14 := dk_go 3 a_Ac_isAct_11 rfl
theorem a_Ac_isAct_15 : dk_at b_Ac_isAct 15 t_Ac_isAct_15 := dk_go 1 a_Ac_isAct_14 rfl
theorem d_Ac_isAct_0 : decode b_Ac_isAct 0 = .ok (.iload_n 0, 1) := dk_0 a_Ac_isAct_0 (dko_26 _)
theorem d_Ac_isAct_1 : decode b_Ac_isAct 1 = .ok (.ifCond .lt 13, 3) := dk_S2 a_Ac_isAct_1 (dko_155 _) (by decide +kernel)
theorem d_Ac_isAct_4 : decode b_Ac_isAct 4 = .ok (.iload_n 0, 1) := dk_0 a_Ac_isAct_4 (dko_26 _)
theorem d_Ac_isAct_5 : decode b_Ac_isAct 5 = .ok (.bipush 32, 2) := dk_S1 a_Ac_isAct_5 (dko_16 _) (by decide +kernel)
theorem d_Ac_isAct_7 : decode b_Ac_isAct 7 = .ok (.if_icmp .ge 7, 3) := dk_S2 a_Ac_isAct_7 (dko_162 _) (by decide +kernel)
theorem d_Ac_isAct_10 : decode b_Ac_isAct 10 = .ok (.iconst 1, 1) := dk_0 a_Ac_isAct_10 (dko_4 _)
theorem d_Ac_isAct_11 : decode b_Ac_isAct 11 = .ok (.goto 4, 3) := dk_S2 a_Ac_isAct_11 (dko_167 _) (by decide +kernel)
theorem d_Ac_isAct_14 : decode b_Ac_isAct 14 = .ok (.iconst 0, 1) := dk_0 a_Ac_isAct_14 (dko_3 _)
theorem d_Ac_isAct_15 : decode b_Ac_isAct 15 = .ok (.ireturn, 1) := dk_0 a_Ac_isAct_15 (dko_172 _)
set_option maxHeartbeats 4000000 in
set_option maxRecDepth 100000 in
theorem ok_Ac_isAct (pc : Nat) : OpS mt mi_Ac_isAct pc (cs_Ac_isAct pc) := (os_n (os_n (os_n (os_l (so_iload_n d_Ac_isAct_0 rfl)) (os_l (so_iflt d_Ac_isAct_1 (by decide)))) (os_n (os_l (so_iload_n d_Ac_isAct_4 rfl)) (os_l (so_bipush d_Ac_isAct_5 (by decide))))) (os_n (os_n (os_l (so_icge d_Ac_isAct_7 (by decide))) (os_l (so_iconst d_Ac_isAct_10 (by decide)))) (os_n (os_l (so_goto d_Ac_isAct_11 (by decide))) (os_n (os_l (so_iconst d_Ac_isAct_14 (by decide))) (os_l (so_zreturn rfl d_Ac_isAct_15))))))
abbrev t_Ac_tie_102 : List UInt8 := 172 :: []
abbrev t_Ac_tie_101 : List UInt8 := 4 :: t_Ac_tie_102
abbrev t_Ac_tie_100 : List UInt8 := 79 :: t_Ac_tie_101
abbrev t_Ac_tie_98 : List UInt8 := 21 :: 5 :: t_Ac_tie_100
abbrev t_Ac_tie_97 : List UInt8 := 27 :: t_Ac_tie_98
abbrev t_Ac_tie_94 : List UInt8 := 180 :: 0 :: 28 :: t_Ac_tie_97
abbrev t_Ac_tie_93 : List UInt8 := 42 :: t_Ac_tie_94
abbrev t_Ac_tie_92 : List UInt8 := 79 :: t_Ac_tie_93
abbrev t_Ac_tie_90 : List UInt8 := 21 :: 4 :: t_Ac_tie_92
abbrev t_Ac_tie_89 : List UInt8 := 27 :: t_Ac_tie_90
abbrev t_Ac_tie_86 : List UInt8 := 180 :: 0 :: 25 :: t_Ac_tie_89
abbrev t_Ac_tie_85 : List UInt8 := 42 :: t_Ac_tie_86
abbrev t_Ac_tie_84 : List UInt8 := 79 :: t_Ac_tie_85
abbrev t_Ac_tie_83 : List UInt8 := 29 :: t_Ac_tie_84
abbrev t_Ac_tie_82 : List UInt8 := 27 :: t_Ac_tie_83
abbrev t_Ac_tie_79 : List UInt8 := 180 :: 0 :: 22 :: t_Ac_tie_82
abbrev t_Ac_tie_78 : List UInt8 := 42 :: t_Ac_tie_79
abbrev t_Ac_tie_77 : List UInt8 := 79 :: t_Ac_tie_78
abbrev t_Ac_tie_76 : List UInt8 := 28 :: t_Ac_tie_77
abbrev t_Ac_tie_75 : List UInt8 := 27 :: t_Ac_tie_76
abbrev t_Ac_tie_72 : List UInt8 := 180 :: 0 :: 18 :: t_Ac_tie_75
abbrev t_Ac_tie_71 : List UInt8 := 42 :: t_Ac_tie_72
abbrev t_Ac_tie_70 : List UInt8 := 172 :: t_Ac_tie_71
abbrev t_Ac_tie_69 : List UInt8 := 3 :: t_Ac_tie_70
abbrev t_Ac_tie_66 : List UInt8 := 164 :: 0 :: 5 :: t_Ac_tie_69
abbrev t_Ac_tie_65 : List UInt8 := 8 :: t_Ac_tie_66
abbrev t_Ac_tie_63 : List UInt8 := 21 :: 4 :: t_Ac_tie_65
abbrev t_Ac_tie_60 : List UInt8 := 161 :: 0 :: 9 :: t_Ac_tie_63
abbrev t_Ac_tie_59 : List UInt8 := 4 :: t_Ac_tie_60
abbrev t_Ac_tie_57 : List UInt8 := 21 :: 4 :: t_Ac_tie_59
abbrev t_Ac_tie_54 : List UInt8 := 160 :: 0 :: 17 :: t_Ac_tie_57
abbrev t_Ac_tie_53 : List UInt8 := 6 :: t_Ac_tie_54
abbrev t_Ac_tie_52 : List UInt8 := 28 :: t_Ac_tie_53
abbrev t_Ac_tie_49 : List UInt8 := 162 :: 0 :: 20 :: t_Ac_tie_52
abbrev t_Ac_tie_47 : List UInt8 := 16 :: 10 :: t_Ac_tie_49
abbrev t_Ac_tie_45 : List UInt8 := 21 :: 4 :: t_Ac_tie_47
abbrev t_Ac_tie_42 : List UInt8 := 155 :: 0 :: 27 :: t_Ac_tie_45
abbrev t_Ac_tie_40 : List UInt8 := 21 :: 4 :: t_Ac_tie_42
abbrev t_Ac_tie_37 : List UInt8 := 160 :: 0 :: 15 :: t_Ac_tie_40
abbrev t_Ac_tie_36 : List UInt8 := 5 :: t_Ac_tie_37
abbrev t_Ac_tie_35 : List UInt8 := 28 :: t_Ac_tie_36
abbrev t_Ac_tie_32 : List UInt8 := 163 :: 0 :: 37 :: t_Ac_tie_35
abbrev t_Ac_tie_30 : List UInt8 := 16 :: 100 :: t_Ac_tie_32
abbrev t_Ac_tie_28 : List UInt8 := 21 :: 5 :: t_Ac_tie_30
abbrev t_Ac_tie_25 : List UInt8 := 161 :: 0 :: 44 :: t_Ac_tie_28
abbrev t_Ac_tie_24 : List UInt8 := 4 :: t_Ac_tie_25
abbrev t_Ac_tie_22 : List UInt8 := 21 :: 5 :: t_Ac_tie_24
abbrev t_Ac_tie_19 : List UInt8 := 154 :: 0 :: 16 :: t_Ac_tie_22
abbrev t_Ac_tie_18 : List UInt8 := 28 :: t_Ac_tie_19
abbrev t_Ac_tie_17 : List UInt8 := 172 :: t_Ac_tie_18
abbrev t_Ac_tie_16 : List UInt8 := 3 :: t_Ac_tie_17
abbrev t_Ac_tie_13 : List UInt8 := 164 :: 0 :: 5 :: t_Ac_tie_16
abbrev t_Ac_tie_12 : List UInt8 := 7 :: t_Ac_tie_13
abbrev t_Ac_tie_11 : List UInt8 := 28 :: t_Ac_tie_12
abbrev t_Ac_tie_8 : List UInt8 := 155 :: 0 :: 8 :: t_Ac_tie_11
abbrev t_Ac_tie_7 : List UInt8 := 28 :: t_Ac_tie_8
abbrev t_Ac_tie_4 : List UInt8 := 153 :: 0 :: 12 :: t_Ac_tie_7
abbrev t_Ac_tie_1 : List UInt8 := 184 :: 0 :: 49 :: t_Ac_tie_4
abbrev t_Ac_tie_0 : List UInt8 := 27 :: t_Ac_tie_1
theorem a_Ac_tie_0 : dk_at b_Ac_tie 0 t_Ac_tie_0 := dk_start (by decide +kernel)
theorem a_Ac_tie_1 : dk_at b_Ac_tie 1 t_Ac_tie_1 := dk_go 1 a_Ac_tie_0 rfl
theorem a_Ac_tie_4 : dk_at b_Ac_tie 4 t_Ac_tie_4 := dk_go 3 a_Ac_tie_1 rfl
theorem a_Ac_tie_7 : dk_at b_Ac_tie 7 t_Ac_tie_7 := dk_go 3 a_Ac_tie_4 rfl
theorem a_Ac_tie_8 : dk_at b_Ac_tie 8 t_Ac_tie_8 := dk_go 1 a_Ac_tie_7 rfl
theorem a_Ac_tie_11 : dk_at b_Ac_tie 11 t_Ac_tie_11 := dk_go 3 a_Ac_tie_8 rfl
theorem a_Ac_tie_12 : dk_at b_Ac_tie 12 t_Ac_tie_12 := dk_go 1 a_Ac_tie_11 rfl
theorem a_Ac_tie_13 : dk_at b_Ac_tie 13 t_Ac_tie_13 := dk_go 1 a_Ac_tie_12 rfl
theorem a_Ac_tie_16 : dk_at b_Ac_tie 16 t_Ac_tie_16 := dk_go 3 a_Ac_tie_13 rfl
theorem a_Ac_tie_17 : dk_at b_Ac_tie 17 t_Ac_tie_17 := dk_go 1 a_Ac_tie_16 rfl
theorem a_Ac_tie_18 : dk_at b_Ac_tie 18 t_Ac_tie_18 := dk_go 1 a_Ac_tie_17 rfl
theorem a_Ac_tie_19 : dk_at b_Ac_tie 19 t_Ac_tie_19 := dk_go 1 a_Ac_tie_18 rfl
theorem a_Ac_tie_22 : dk_at b_Ac_tie 22 t_Ac_tie_22 := dk_go 3 a_Ac_tie_19 rfl
theorem a_Ac_tie_24 : dk_at b_Ac_tie 24 t_Ac_tie_24 := dk_go 2 a_Ac_tie_22 rfl
theorem a_Ac_tie_25 : dk_at b_Ac_tie 25 t_Ac_tie_25 := dk_go 1 a_Ac_tie_24 rfl
theorem a_Ac_tie_28 : dk_at b_Ac_tie 28 t_Ac_tie_28 := dk_go 3 a_Ac_tie_25 rfl
theorem a_Ac_tie_30 : dk_at b_Ac_tie 30 t_Ac_tie_30 := dk_go 2 a_Ac_tie_28 rfl
theorem a_Ac_tie_32 : dk_at b_Ac_tie 32 t_Ac_tie_32 := dk_go 2 a_Ac_tie_30 rfl
theorem a_Ac_tie_35 : dk_at b_Ac_tie 35 t_Ac_tie_35 := dk_go 3 a_Ac_tie_32 rfl
theorem a_Ac_tie_36 : dk_at b_Ac_tie 36 t_Ac_tie_36 := dk_go 1 a_Ac_tie_35 rfl
theorem a_Ac_tie_37 : dk_at b_Ac_tie 37 t_Ac_tie_37 := dk_go 1 a_Ac_tie_36 rfl
theorem a_Ac_tie_40 : dk_at b_Ac_tie 40 t_Ac_tie_40 := dk_go 3 a_Ac_tie_37 rfl
theorem a_Ac_tie_42 : dk_at b_Ac_tie 42 t_Ac_tie_42 := dk_go 2 a_Ac_tie_40 rfl
theorem a_Ac_tie_45 : dk_at b_Ac_tie 45 t_Ac_tie_45 := dk_go 3 a_Ac_tie_42 rfl
theorem a_Ac_tie_47 : dk_at b_Ac_tie 47 t_Ac_tie_47 := dk_go 2 a_Ac_tie_45 rfl
theorem a_Ac_tie_49 : dk_at b_Ac_tie 49 t_Ac_tie_49 := dk_go 2 a_Ac_tie_47 rfl
theorem a_Ac_tie_52 : dk_at b_Ac_tie 52 t_Ac_tie_52 := dk_go 3 a_Ac_tie_49 rfl
theorem a_Ac_tie_53 : dk_at b_Ac_tie 53 t_Ac_tie_53 := dk_go 1 a_Ac_tie_52 rfl
theorem a_Ac_tie_54 : dk_at b_Ac_tie 54 t_Ac_tie_54 := dk_go 1 a_Ac_tie_53 rfl
theorem a_Ac_tie_57 : dk_at b_Ac_tie 57 t_Ac_tie_57 := dk_go 3 a_Ac_tie_54 rfl
theorem a_Ac_tie_59 : dk_at b_Ac_tie 59 t_Ac_tie_59 := dk_go 2 a_Ac_tie_57 rfl
theorem a_Ac_tie_60 : dk_at b_Ac_tie 60 t_Ac_tie_60 := dk_go 1 a_Ac_tie_59 rfl
theorem a_Ac_tie_63 : dk_at b_Ac_tie 63 t_Ac_tie_63 := dk_go 3 a_Ac_tie_60 rfl
theorem a_Ac_tie_65 : dk_at b_Ac_tie 65 t_Ac_tie_65 := dk_go 2 a_Ac_tie_63 rfl
theorem a_Ac_tie_66 : dk_at b_Ac_tie 66 t_Ac_tie_66 := dk_go 1 a_Ac_tie_65 rfl
theorem a_Ac_tie_69 : dk_at b_Ac_tie 69 t_Ac_tie_69 := dk_go 3 a_Ac_tie_66 rfl
theorem a_Ac_tie_70 : dk_at b_Ac_tie 70 t_Ac_tie_70 := dk_go 1 a_Ac_tie_69 rfl
theorem a_Ac_tie_71 : dk_at b_Ac_tie 71 t_Ac_tie_71 := dk_go 1 a_Ac_tie_70 rfl
theorem a_Ac_tie_72 : dk_at b_Ac_tie 72 t_Ac_tie_72 := dk_go 1 a_Ac_tie_71 rfl
theorem a_Ac_tie_75 : dk_at b_Ac_tie 75 t_Ac_tie_75 := dk_go 3 a_Ac_tie_72 rfl
theorem a_Ac_tie_76 : dk_at b_Ac_tie 76 t_Ac_tie_76 := dk_go 1 a_Ac_tie_75 rfl
theorem a_Ac_tie_77 : dk_at b_Ac_tie 77 t_Ac_tie_77 := dk_go 1 a_Ac_tie_76 rfl
theorem a_Ac_tie_78 : dk_at b_Ac_tie 78 t_Ac_tie_78 := dk_go 1 a_Ac_tie_77 rfl
theorem a_Ac_tie_79 : dk_at b_Ac_tie 79 t_Ac_tie_79 := dk_go 1 a_Ac_tie_78 rfl
theorem a_Ac_tie_82 : dk_at b_Ac_tie 82 t_Ac_tie_82 := dk_go 3 a_Ac_tie_79 rfl
theorem a_Ac_tie_83 : dk_at b_Ac_tie 83 t_Ac_tie_83 := dk_go 1 a_Ac_tie_82 rfl
theorem a_Ac_tie_84 : dk_at b_Ac_tie 84 t_Ac_tie_84 := dk_go 1 a_Ac_tie_83 rfl
theorem a_Ac_tie_85 : dk_at b_Ac_tie 85 t_Ac_tie_85 := dk_go 1 a_Ac_tie_84 rfl
theorem a_Ac_tie_86 : dk_at b_Ac_tie 86 t_Ac_tie_86 := dk_go 1 a_Ac_tie_85 rfl
theorem a_Ac_tie_89 : dk_at b_Ac_tie 89 t_Ac_tie_89 := dk_go 3 a_Ac_tie_86 rfl
theorem a_Ac_tie_90 : dk_at b_Ac_tie 90 t_Ac_tie_90 := dk_go 1 a_Ac_tie_89 rfl
theorem a_Ac_tie_92 : dk_at b_Ac_tie 92 t_Ac_tie_92 := dk_go 2 a_Ac_tie_90 rfl
theorem a_Ac_tie_93 : dk_at b_Ac_tie 93 t_Ac_tie_93 := dk_go 1 a_Ac_tie_92 rfl
theorem a_Ac_tie_94 : dk_at b_Ac_tie 94 t_Ac_tie_94 := dk_go 1 a_Ac_tie_93 rfl
theorem a_Ac_tie_97 : dk_at b_Ac_tie 97 t_Ac_tie_97 := dk_go 3 a_Ac_tie_94 rfl
theorem a_Ac_tie_98 : dk_at b_Ac_tie 98 t_Ac_tie_98 := dk_go 1 a_Ac_tie_97 rfl
theorem a_Ac_tie_100 : dk_at b_Ac_tie 100 t_Ac_tie_100 := dk_go 2 a_Ac_tie_98 rfl
theorem a_Ac_tie_101 : dk_at b_Ac_tie 101 t_Ac_tie_101 := dk_go 1 a_Ac_tie_100 rfl
theorem a_Ac_tie_102 : dk_at b_Ac_tie 102 t_Ac_tie_102 := dk_go 1 a_Ac_tie_101 rfl
theorem d_Ac_tie_0 : decode b_Ac_tie 0 = .ok (.iload_n 1, 1) := dk_0 a_Ac_tie_0 (dko_27 _)
theorem d_Ac_tie_1 : decode b_Ac_tie 1 = .ok (.invokestatic 49, 3) := dk_U2 a_Ac_tie_1 (dko_184 _) rfl
theorem d_Ac_tie_4 : decode b_Ac_tie 4 = .ok (.ifCond .eq 12, 3) := dk_S2 a_Ac_tie_4 (dko_153 _) (by decide +kernel)
theorem d_Ac_tie_7 : decode b_Ac_tie 7 = .ok (.iload_n 2, 1) := dk_0 a_Ac_tie_7 (dko_28 _)
theorem d_Ac_tie_8 : decode b_Ac_tie 8 = .ok (.ifCond .lt 8, 3) := dk_S2 a_Ac_tie_8 (dko_155 _) (by decide +kernel)
theorem d_Ac_tie_11 : decode b_Ac_tie 11 = .ok (.iload_n 2, 1) := dk_0 a_Ac_tie_11 (dko_28 _)
theorem d_Ac_tie_12 : decode b_Ac_tie 12 = .ok (.iconst 4, 1) := dk_0 a_Ac_tie_12 (dko_7 _)
theorem d_Ac_tie_13 : decode b_Ac_tie 13 = .ok (.if_icmp .le 5, 3) := dk_S2 a_Ac_tie_13 (dko_164 _) (by decide +kernel)
theorem d_Ac_tie_16 : decode b_Ac_tie 16 = .ok (.iconst 0, 1) := dk_0 a_Ac_tie_16 (dko_3 _)
theorem d_Ac_tie_17 : decode b_Ac_tie 17 = .ok (.ireturn, 1) := dk_0 a_Ac_tie_17 (dko_172 _)
theorem d_Ac_tie_18 : decode b_Ac_tie 18 = .ok (.iload_n 2, 1) := dk_0 a_Ac_tie_18 (dko_28 _)
theorem d_Ac_tie_19 : decode b_Ac_tie 19 = .ok (.ifCond .ne 16, 3) := dk_S2 a_Ac_tie_19 (dko_154 _) (by decide +kernel)
theorem d_Ac_tie_22 : decode b_Ac_tie 22 = .ok (.iload 5, 2) := dk_U1 a_Ac_tie_22 (dko_21 _) rfl
theorem d_Ac_tie_24 : decode b_Ac_tie 24 = .ok (.iconst 1, 1) := dk_0 a_Ac_tie_24 (dko_4 _)
theorem d_Ac_tie_25 : decode b_Ac_tie 25 = .ok (.if_icmp .lt 44, 3) := dk_S2 a_Ac_tie_25 (dko_161 _) (by decide +kernel)
theorem d_Ac_tie_28 : decode b_Ac_tie 28 = .ok (.iload 5, 2) := dk_U1 a_Ac_tie_28 (dko_21 _) rfl
theorem d_Ac_tie_30 : decode b_Ac_tie 30 = .ok (.bipush 100, 2) := dk_S1 a_Ac_tie_30 (dko_16 _) (by decide +kernel)
theorem d_Ac_tie_32 : decode b_Ac_tie 32 = .ok (.if_icmp .gt 37, 3) := dk_S2 a_Ac_tie_32 (dko_163 _) (by decide +kernel)
theorem d_Ac_tie_35 : decode b_Ac_tie 35 = .ok (.iload_n 2, 1) := dk_0 a_Ac_tie_35 (dko_28 _)
theorem d_Ac_tie_36 : decode b_Ac_tie 36 = .ok (.iconst 2, 1) := dk_0 a_Ac_tie_36 (dko_5 _)
theorem d_Ac_tie_37 : decode b_Ac_tie 37 = .ok (.if_icmp .ne 15, 3) := dk_S2 a_Ac_tie_37 (dko_160 _) (by decide +kernel)
theorem d_Ac_tie_40 : decode b_Ac_tie 40 = .ok (.iload 4, 2) := dk_U1 a_Ac_tie_40 (dko_21 _) rfl
theorem d_Ac_tie_42 : decode b_Ac_tie 42 = .ok (.ifCond .lt 27, 3) := dk_S2 a_Ac_tie_42 (dko_155 _) (by decide +kernel)
theorem d_Ac_tie_45 : decode b_Ac_tie 45 = .ok (.iload 4, 2) := dk_U1 a_Ac_tie_45 (dko_21 _) rfl
theorem d_Ac_tie_47 : decode b_Ac_tie 47 = .ok (.bipush 10, 2) := dk_S1 a_Ac_tie_47 (dko_16 _) (by decide +kernel)
theorem d_Ac_tie_49 : decode b_Ac_tie 49 = .ok (.if_icmp .ge 20, 3) := dk_S2 a_Ac_tie_49 (dko_162 _) (by decide +kernel)
theorem d_Ac_tie_52 : decode b_Ac_tie 52 = .ok (.iload_n 2, 1) := dk_0 a_Ac_tie_52 (dko_28 _)
theorem d_Ac_tie_53 : decode b_Ac_tie 53 = .ok (.iconst 3, 1) := dk_0 a_Ac_tie_53 (dko_6 _)
theorem d_Ac_tie_54 : decode b_Ac_tie 54 = .ok (.if_icmp .ne 17, 3) := dk_S2 a_Ac_tie_54 (dko_160 _) (by decide +kernel)
theorem d_Ac_tie_57 : decode b_Ac_tie 57 = .ok (.iload 4, 2) := dk_U1 a_Ac_tie_57 (dko_21 _) rfl
theorem d_Ac_tie_59 : decode b_Ac_tie 59 = .ok (.iconst 1, 1) := dk_0 a_Ac_tie_59 (dko_4 _)
theorem d_Ac_tie_60 : decode b_Ac_tie 60 = .ok (.if_icmp .lt 9, 3) := dk_S2 a_Ac_tie_60 (dko_161 _) (by decide +kernel)
theorem d_Ac_tie_63 : decode b_Ac_tie 63 = .ok (.iload 4, 2) := dk_U1 a_Ac_tie_63 (dko_21 _) rfl
theorem d_Ac_tie_65 : decode b_Ac_tie 65 = .ok (.iconst 5, 1) := dk_0 a_Ac_tie_65 (dko_8 _)
theorem d_Ac_tie_66 : decode b_Ac_tie 66 = .ok (.if_icmp .le 5, 3) := dk_S2 a_Ac_tie_66 (dko_164 _) (by decide +kernel)
theorem d_Ac_tie_69 : decode b_Ac_tie 69 = .ok (.iconst 0, 1) := dk_0 a_Ac_tie_69 (dko_3 _)
theorem d_Ac_tie_70 : decode b_Ac_tie 70 = .ok (.ireturn, 1) := dk_0 a_Ac_tie_70 (dko_172 _)
theorem d_Ac_tie_71 : decode b_Ac_tie 71 = .ok (.aload_n 0, 1) := dk_0 a_Ac_tie_71 (dko_42 _)
theorem d_Ac_tie_72 : decode b_Ac_tie 72 = .ok (.getfield 18, 3) := dk_U2 a_Ac_tie_72 (dko_180 _) rfl
theorem d_Ac_tie_75 : decode b_Ac_tie 75 = .ok (.iload_n 1, 1) := dk_0 a_Ac_tie_75 (dko_27 _)
theorem d_Ac_tie_76 : decode b_Ac_tie 76 = .ok (.iload_n 2, 1) := dk_0 a_Ac_tie_76 (dko_28 _)
theorem d_Ac_tie_77 : decode b_Ac_tie 77 = .ok (.iastore, 1) := dk_0 a_Ac_tie_77 (dko_79 _)
theorem d_Ac_tie_78 : decode b_Ac_tie 78 = .ok (.aload_n 0, 1) := dk_0 a_Ac_tie_78 (dko_42 _)
theorem d_Ac_tie_79 : decode b_Ac_tie 79 = .ok (.getfield 22, 3) := dk_U2 a_Ac_tie_79 (dko_180 _) rfl
theorem d_Ac_tie_82 : decode b_Ac_tie 82 = .ok (.iload_n 1, 1) := dk_0 a_Ac_tie_82 (dko_27 _)
theorem d_Ac_tie_83 : decode b_Ac_tie 83 = .ok (.iload_n 3, 1) := dk_0 a_Ac_tie_83 (dko_29 _)
theorem d_Ac_tie_84 : decode b_Ac_tie 84 = .ok (.iastore, 1) := dk_0 a_Ac_tie_84 (dko_79 _)
theorem d_Ac_tie_85 : decode b_Ac_tie 85 = .ok (.aload_n 0, 1) := dk_0 a_Ac_tie_85 (dko_42 _)
theorem d_Ac_tie_86 : decode b_Ac_tie 86 = .ok (.getfield 25, 3) := dk_U2 a_Ac_tie_86 (dko_180 _) rfl
theorem d_Ac_tie_89 : decode b_Ac_tie 89 = .ok (.iload_n 1, 1) := dk_0 a_Ac_tie_89 (dko_27 _)
theorem d_Ac_tie_90 : decode b_Ac_tie 90 = .ok (.iload 4, 2) := dk_U1 a_Ac_tie_90 (dko_21 _) rfl
theorem d_Ac_tie_92 : decode b_Ac_tie 92 = .ok (.iastore, 1) := dk_0 a_Ac_tie_92 (dko_79 _)
theorem d_Ac_tie_93 : decode b_Ac_tie 93 = .ok (.aload_n 0, 1) := dk_0 a_Ac_tie_93 (dko_42 _)
theorem d_Ac_tie_94 : decode b_Ac_tie 94 = .ok (.getfield 28, 3) := dk_U2 a_Ac_tie_94 (dko_180 _) rfl
theorem d_Ac_tie_97 : decode b_Ac_tie 97 = .ok (.iload_n 1, 1) := dk_0 a_Ac_tie_97 (dko_27 _)
theorem d_Ac_tie_98 : decode b_Ac_tie 98 = .ok (.iload 5, 2) := dk_U1 a_Ac_tie_98 (dko_21 _) rfl
theorem d_Ac_tie_100 : decode b_Ac_tie 100 = .ok (.iastore, 1) := dk_0 a_Ac_tie_100 (dko_79 _)
theorem d_Ac_tie_101 : decode b_Ac_tie 101 = .ok (.iconst 1, 1) := dk_0 a_Ac_tie_101 (dko_4 _)
theorem d_Ac_tie_102 : decode b_Ac_tie 102 = .ok (.ireturn, 1) := dk_0 a_Ac_tie_102 (dko_172 _)
set_option maxHeartbeats 4000000 in
set_option maxRecDepth 100000 in
theorem ok_Ac_tie (pc : Nat) : OpS mt mi_Ac_tie pc (cs_Ac_tie pc) := (os_n (os_n (os_n (os_n (os_n (os_l (so_iload_n d_Ac_tie_0 rfl)) (os_n (os_l (so_callS (iv := mi_Ac_isAct) rfl mw_1178 mw_1179 mw_9 mw_1180 ⟨by decide +kernel, by decide +kernel, by decide +kernel⟩ (by decide) d_Ac_tie_1)) (os_l (so_ifeq d_Ac_tie_4 (by decide))))) (os_n (os_n (os_l (so_iload_n d_Ac_tie_7 rfl)) (os_l (so_iflt d_Ac_tie_8 (by decide)))) (os_n (os_l (so_iload_n d_Ac_tie_11 rfl)) (os_l (so_iconst d_Ac_tie_12 (by decide)))))) (os_n (os_n (os_l (so_icle d_Ac_tie_13 (by decide))) (os_n (os_l (so_iconst d_Ac_tie_16 (by decide))) (os_l (so_zreturn rfl d_Ac_tie_17)))) (os_n (os_n (os_l (so_iload_n d_Ac_tie_18 rfl)) (os_l (so_ifne d_Ac_tie_19 (by decide)))) (os_n (os_l (so_iload d_Ac_tie_22)) (os_l (so_iconst d_Ac_tie_24 (by decide))))))) (os_n (os_n (os_n (os_l (so_iclt d_Ac_tie_25 (by decide))) (os_n (os_l (so_iload d_Ac_tie_28)) (os_l (so_bipush d_Ac_tie_30 (by decide))))) (os_n (os_n (os_l (so_icgt d_Ac_tie_32 (by decide))) (os_l (so_iload_n d_Ac_tie_35 rfl))) (os_n (os_l (so_iconst d_Ac_tie_36 (by decide))) (os_l (so_icne d_Ac_tie_37 (by decide)))))) (os_n (os_n (os_n (os_l (so_iload d_Ac_tie_40)) (os_l (so_iflt d_Ac_tie_42 (by decide)))) (os_n (os_l (so_iload d_Ac_tie_45)) (os_l (so_bipush d_Ac_tie_47 (by decide))))) (os_n (os_n (os_l (so_icge d_Ac_tie_49 (by decide))) (os_l (so_iload_n d_Ac_tie_52 rfl))) (os_n (os_l (so_iconst d_Ac_tie_53 (by decide))) (os_l (so_icne d_Ac_tie_54 (by decide)))))))) (os_n (os_n (os_n (os_n (os_l (so_iload d_Ac_tie_57)) (os_n (os_l (so_iconst d_Ac_tie_59 (by decide))) (os_l (so_iclt d_Ac_tie_60 (by decide))))) (os_n (os_n (os_l (so_iload d_Ac_tie_63)) (os_l (so_iconst d_Ac_tie_65 (by decide)))) (os_n (os_l (so_icle d_Ac_tie_66 (by decide))) (os_l (so_iconst d_Ac_tie_69 (by decide)))))) (os_n (os_n (os_n (os_l (so_zreturn rfl d_Ac_tie_70)) (os_l (so_aload_n d_Ac_tie_71 rfl))) (os_n (os_l (so_get (C := R_Ac) (T := F_Ac) (N := 8) (j := 4) in_Ac rfl (by decide) mw_395 d_Ac_tie_72)) (os_l (so_iload_n d_Ac_tie_75 rfl)))) (os_n (os_n (os_l (so_iload_n d_Ac_tie_76 rfl)) (os_l (so_iastore d_Ac_tie_77))) (os_n (os_l (so_aload_n d_Ac_tie_78 rfl)) (os_l (so_get (C := R_Ac) (T := F_Ac) (N := 8) (j := 5) in_Ac rfl (by decide) mw_396 d_Ac_tie_79)))))) (os_n (os_n (os_n (os_l (so_iload_n d_Ac_tie_82 rfl)) (os_n (os_l (so_iload_n d_Ac_tie_83 rfl)) (os_l (so_iastore d_Ac_tie_84)))) (os_n (os_n (os_l (so_aload_n d_Ac_tie_85 rfl)) (os_l (so_get (C := R_Ac) (T := F_Ac) (N := 8) (j := 6) in_Ac rfl (by decide) mw_397 d_Ac_tie_86))) (os_n (os_l (so_iload_n d_Ac_tie_89 rfl)) (os_l (so_iload d_Ac_tie_90))))) (os_n (os_n (os_n (os_l (so_iastore d_Ac_tie_92)) (os_l (so_aload_n d_Ac_tie_93 rfl))) (os_n (os_l (so_get (C := R_Ac) (T := F_Ac) (N := 8) (j := 7) in_Ac rfl (by decide) mw_398 d_Ac_tie_94)) (os_l (so_iload_n d_Ac_tie_97 rfl)))) (os_n (os_n (os_l (so_iload d_Ac_tie_98)) (os_l (so_iastore d_Ac_tie_100))) (os_n (os_l (so_iconst d_Ac_tie_101 (by decide))) (os_l (so_zreturn rfl d_Ac_tie_102))))))))
