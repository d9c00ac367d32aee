abbrev t_Bh_feed_62 : List UInt8 := 172 :: []
abbrev t_Bh_feed_59 : List UInt8 := 180 :: 0 :: 123 :: t_Bh_feed_62
abbrev t_Bh_feed_56 : List UInt8 := 180 :: 0 :: 10 :: t_Bh_feed_59
abbrev t_Bh_feed_55 : List UInt8 := 42 :: t_Bh_feed_56
abbrev t_Bh_feed_52 : List UInt8 := 182 :: 0 :: 119 :: t_Bh_feed_55
abbrev t_Bh_feed_50 : List UInt8 := 21 :: 5 :: t_Bh_feed_52
abbrev t_Bh_feed_47 : List UInt8 := 180 :: 0 :: 10 :: t_Bh_feed_50
abbrev t_Bh_feed_46 : List UInt8 := 42 :: t_Bh_feed_47
abbrev t_Bh_feed_43 : List UInt8 := 182 :: 0 :: 119 :: t_Bh_feed_46
abbrev t_Bh_feed_41 : List UInt8 := 21 :: 4 :: t_Bh_feed_43
abbrev t_Bh_feed_38 : List UInt8 := 180 :: 0 :: 10 :: t_Bh_feed_41
abbrev t_Bh_feed_37 : List UInt8 := 42 :: t_Bh_feed_38
abbrev t_Bh_feed_34 : List UInt8 := 182 :: 0 :: 119 :: t_Bh_feed_37
abbrev t_Bh_feed_33 : List UInt8 := 29 :: t_Bh_feed_34
abbrev t_Bh_feed_30 : List UInt8 := 180 :: 0 :: 10 :: t_Bh_feed_33
abbrev t_Bh_feed_29 : List UInt8 := 42 :: t_Bh_feed_30
abbrev t_Bh_feed_26 : List UInt8 := 182 :: 0 :: 119 :: t_Bh_feed_29
abbrev t_Bh_feed_25 : List UInt8 := 28 :: t_Bh_feed_26
abbrev t_Bh_feed_22 : List UInt8 := 180 :: 0 :: 10 :: t_Bh_feed_25
abbrev t_Bh_feed_21 : List UInt8 := 42 :: t_Bh_feed_22
abbrev t_Bh_feed_18 : List UInt8 := 182 :: 0 :: 119 :: t_Bh_feed_21
abbrev t_Bh_feed_17 : List UInt8 := 27 :: t_Bh_feed_18
abbrev t_Bh_feed_14 : List UInt8 := 180 :: 0 :: 10 :: t_Bh_feed_17
abbrev t_Bh_feed_13 : List UInt8 := 42 :: t_Bh_feed_14
abbrev t_Bh_feed_12 : List UInt8 := 172 :: t_Bh_feed_13
abbrev t_Bh_feed_10 : List UInt8 := 16 :: 254 :: t_Bh_feed_12
abbrev t_Bh_feed_7 : List UInt8 := 154 :: 0 :: 6 :: t_Bh_feed_10
abbrev t_Bh_feed_4 : List UInt8 := 182 :: 0 :: 115 :: t_Bh_feed_7
abbrev t_Bh_feed_1 : List UInt8 := 180 :: 0 :: 10 :: t_Bh_feed_4
abbrev t_Bh_feed_0 : List UInt8 := 42 :: t_Bh_feed_1
theorem a_Bh_feed_0 : dk_at b_Bh_feed 0 t_Bh_feed_0 := dk_start (by decide +kernel)
theorem a_Bh_feed_1 : dk_at b_Bh_feed 1 t_Bh_feed_1 := dk_go 1 a_Bh_feed_0 rfl
theorem a_Bh_feed_4 : dk_at b_Bh_feed 4 t_Bh_feed_4 := dk_go 3 a_Bh_feed_1 rfl
theorem a_Bh_feed_7 : dk_at b_Bh_feed 7 t_Bh_feed_7 := dk_go 3 a_Bh_feed_4 rfl
theorem a_Bh_feed_10 : dk_at b_Bh_feed 10 t_Bh_feed_10 := dk_go 3 a_Bh_feed_7 rfl
theorem a_Bh_feed_12 : dk_at b_Bh_feed 12 t_Bh_feed_12 := dk_go 2 a_Bh_feed_10 rfl
theorem a_Bh_feed_13 : dk_at b_Bh_feed 13 t_Bh_feed_13 := dk_go 1 a_Bh_feed_12 rfl
theorem a_Bh_feed_14 : dk_at b_Bh_feed 14 t_Bh_feed_14 := dk_go 1 a_Bh_feed_13 rfl
theorem a_Bh_feed_17 : dk_at b_Bh_feed 17 t_Bh_feed_17 := dk_go 3 a_Bh_feed_14 rfl
theorem a_Bh_feed_18 : dk_at b_Bh_feed 18 t_Bh_feed_18 := dk_go 1 a_Bh_feed_17 rfl
theorem a_Bh_feed_21 : dk_at b_Bh_feed 21 t_Bh_feed_21 := dk_go 3 a_Bh_feed_18 rfl
theorem a_Bh_feed_22 : dk_at b_Bh_feed 22 t_Bh_feed_22 := dk_go 1 a_Bh_feed_21 rfl
theorem a_Bh_feed_25 : dk_at b_Bh_feed 25 t_Bh_feed_25 := dk_go 3 a_Bh_feed_22 rfl
theorem a_Bh_feed_26 : dk_at b_Bh_feed 26 t_Bh_feed_26 := dk_go 1 a_Bh_feed_25 rfl
theorem a_Bh_feed_29 : dk_at b_Bh_feed 29 t_Bh_feed_29 := dk_go 3 a_Bh_feed_26 rfl
theorem a_Bh_feed_30 : dk_at b_Bh_feed 30 t_Bh_feed_30 := dk_go 1 a_Bh_feed_29 rfl
theorem a_Bh_feed_33 : dk_at b_Bh_feed 33 t_Bh_feed_33 := dk_go 3 a_Bh_feed_30 rfl
theorem a_Bh_feed_34 : dk_at b_Bh_feed 34 t_Bh_feed_34 := dk_go 1 a_Bh_feed_33 rfl
theorem a_Bh_feed_37 : dk_at b_Bh_feed 37 t_Bh_feed_37 := dk_go 3 a_Bh_feed_34 rfl
theorem a_Bh_feed_38 : dk_at b_Bh_feed 38 t_Bh_feed_38 := dk_go 1 a_Bh_feed_37 rfl
theorem a_Bh_feed_41 : dk_at b_Bh_feed 41 t_Bh_feed_41 := dk_go 3 a_Bh_feed_38 rfl
theorem a_Bh_feed_43 : dk_at b_Bh_feed 43 t_Bh_feed_43 := dk_go 2 a_Bh_feed_41 rfl
theorem a_Bh_feed_46 : dk_at b_Bh_feed 46 t_Bh_feed_46 := dk_go 3 a_Bh_feed_43 rfl
theorem a_Bh_feed_47 : dk_at b_Bh_feed 47 t_Bh_feed_47 := dk_go 1 a_Bh_feed_46 rfl
theorem a_Bh_feed_50 : dk_at b_Bh_feed 50 t_Bh_feed_50 := dk_go 3 a_Bh_feed_47 rfl
theorem a_Bh_feed_52 : dk_at b_Bh_feed 52 t_Bh_feed_52 := dk_go 2 a_Bh_feed_50 rfl
theorem a_Bh_feed_55 : dk_at b_Bh_feed 55 t_Bh_feed_55 := dk_go 3 a_Bh_feed_52 rfl
theorem a_Bh_feed_56 : dk_at b_Bh_feed 56 t_Bh_feed_56 := dk_go 1 a_Bh_feed_55 rfl
theorem a_Bh_feed_59 : dk_at b_Bh_feed 59 t_Bh_feed_59 := dk_go 3 a_Bh_feed_56 rfl
theorem a_Bh_feed_62 : dk_at b_Bh_feed 62 t_Bh_feed_62 := dk_go 3 a_Bh_feed_59 rfl
theorem d_Bh_feed_0 : decode b_Bh_feed 0 = .ok (.aload_n 0, 1) := dk_0 a_Bh_feed_0 (dko_42 _)
theorem d_Bh_feed_1 : decode b_Bh_feed 1 = .ok (.getfield 10, 3) := dk_U2 a_Bh_feed_1 (dko_180 _) rfl
theorem d_Bh_feed_4 : decode b_Bh_feed 4 = .ok (.invokevirtual 115, 3) := dk_U2 a_Bh_feed_4 (dko_182 _) rfl
theorem d_Bh_feed_7 : decode b_Bh_feed 7 = .ok (.ifCond .ne 6, 3) := dk_S2 a_Bh_feed_7 (dko_154 _) (by decide +kernel)
theorem d_Bh_feed_10 : decode b_Bh_feed 10 = .ok (.bipush (-2), 2) := dk_S1 a_Bh_feed_10 (dko_16 _) (by decide +kernel)
theorem d_Bh_feed_12 : decode b_Bh_feed 12 = .ok (.ireturn, 1) := dk_0 a_Bh_feed_12 (dko_172 _)
theorem d_Bh_feed_13 : decode b_Bh_feed 13 = .ok (.aload_n 0, 1) := dk_0 a_Bh_feed_13 (dko_42 _)
theorem d_Bh_feed_14 : decode b_Bh_feed 14 = .ok (.getfield 10, 3) := dk_U2 a_Bh_feed_14 (dko_180 _) rfl
theorem d_Bh_feed_17 : decode b_Bh_feed 17 = .ok (.iload_n 1, 1) := dk_0 a_Bh_feed_17 (dko_27 _)
theorem d_Bh_feed_18 : decode b_Bh_feed 18 = .ok (.invokevirtual 119, 3) := dk_U2 a_Bh_feed_18 (dko_182 _) rfl
theorem d_Bh_feed_21 : decode b_Bh_feed 21 = .ok (.aload_n 0, 1) := dk_0 a_Bh_feed_21 (dko_42 _)
theorem d_Bh_feed_22 : decode b_Bh_feed 22 = .ok (.getfield 10, 3) := dk_U2 a_Bh_feed_22 (dko_180 _) rfl
theorem d_Bh_feed_25 : decode b_Bh_feed 25 = .ok (.iload_n 2, 1) := dk_0 a_Bh_feed_25 (dko_28 _)
theorem d_Bh_feed_26 : decode b_Bh_feed 26 = .ok (.invokevirtual 119, 3) := dk_U2 a_Bh_feed_26 (dko_182 _) rfl
theorem d_Bh_feed_29 : decode b_Bh_feed 29 = .ok (.aload_n 0, 1) := dk_0 a_Bh_feed_29 (dko_42 _)
theorem d_Bh_feed_30 : decode b_Bh_feed 30 = .ok (.getfield 10, 3) := dk_U2 a_Bh_feed_30 (dko_180 _) rfl
theorem d_Bh_feed_33 : decode b_Bh_feed 33 = .ok (.iload_n 3, 1) := dk_0 a_Bh_feed_33 (dko_29 _)
theorem d_Bh_feed_34 : decode b_Bh_feed 34 = .ok (.invokevirtual 119, 3) := dk_U2 a_Bh_feed_34 (dko_182 _) rfl
theorem d_Bh_feed_37 : decode b_Bh_feed 37 = .ok (.aload_n 0, 1) := dk_0 a_Bh_feed_37 (dko_42 _)
theorem d_Bh_feed_38 : decode b_Bh_feed 38 = .ok (.getfield 10, 3) := dk_U2 a_Bh_feed_38 (dko_180 _) rfl
theorem d_Bh_feed_41 : decode b_Bh_feed 41 = .ok (.iload 4, 2) := dk_U1 a_Bh_feed_41 (dko_21 _) rfl
theorem d_Bh_feed_43 : decode b_Bh_feed 43 = .ok (.invokevirtual 119, 3) := dk_U2 a_Bh_feed_43 (dko_182 _) rfl
theorem d_Bh_feed_46 : decode b_Bh_feed 46 = .ok (.aload_n 0, 1) := dk_0 a_Bh_feed_46 (dko_42 _)
theorem d_Bh_feed_47 : decode b_Bh_feed 47 = .ok (.getfield 10, 3) := dk_U2 a_Bh_feed_47 (dko_180 _) rfl
theorem d_Bh_feed_50 : decode b_Bh_feed 50 = .ok (.iload 5, 2) := dk_U1 a_Bh_feed_50 (dko_21 _) rfl
theorem d_Bh_feed_52 : decode b_Bh_feed 52 = .ok (.invokevirtual 119, 3) := dk_U2 a_Bh_feed_52 (dko_182 _) rfl
theorem d_Bh_feed_55 : decode b_Bh_feed 55 = .ok (.aload_n 0, 1) := dk_0 a_Bh_feed_55 (dko_42 _)
theorem d_Bh_feed_56 : decode b_Bh_feed 56 = .ok (.getfield 10, 3) := dk_U2 a_Bh_feed_56 (dko_180 _) rfl
theorem d_Bh_feed_59 : decode b_Bh_feed 59 = .ok (.getfield 123, 3) := dk_U2 a_Bh_feed_59 (dko_180 _) rfl
theorem d_Bh_feed_62 : decode b_Bh_feed 62 = .ok (.ireturn, 1) := dk_0 a_Bh_feed_62 (dko_172 _)
set_option maxHeartbeats 4000000 in
set_option maxRecDepth 100000 in
theorem ok_Bh_feed (pc : Nat) : OpS mt mi_Bh_feed pc (cs_Bh_feed pc) := (os_n (os_n (os_n (os_n (os_l (so_aload_n d_Bh_feed_0 rfl)) (os_n (os_l (so_get (C := R_Bh) (T := F_Bh) (N := 16) (j := 0) in_Bh rfl (by decide) mw_684 d_Bh_feed_1)) (os_l (so_callV (iv := mi_Tp_hasRoom) rfl rfl rfl mw_737 mw_738 mw_739 mw_2 mw_740 ⟨by decide +kernel, by decide +kernel, by decide +kernel⟩ (by decide) d_Bh_feed_4)))) (os_n (os_n (os_l (so_ifne d_Bh_feed_7 (by decide))) (os_l (so_bipush d_Bh_feed_10 (by decide)))) (os_n (os_l (so_ireturn rfl d_Bh_feed_12)) (os_l (so_aload_n d_Bh_feed_13 rfl))))) (os_n (os_n (os_n (os_l (so_get (C := R_Bh) (T := F_Bh) (N := 16) (j := 0) in_Bh rfl (by decide) mw_684 d_Bh_feed_14)) (os_l (so_iload_n d_Bh_feed_17 rfl))) (os_n (os_l (so_callV (iv := mi_Tp_put) rfl rfl rfl mw_741 mw_742 mw_743 mw_2 mw_744 ⟨by decide +kernel, by decide +kernel, by decide +kernel⟩ (by decide) d_Bh_feed_18)) (os_l (so_aload_n d_Bh_feed_21 rfl)))) (os_n (os_n (os_l (so_get (C := R_Bh) (T := F_Bh) (N := 16) (j := 0) in_Bh rfl (by decide) mw_684 d_Bh_feed_22)) (os_l (so_iload_n d_Bh_feed_25 rfl))) (os_n (os_l (so_callV (iv := mi_Tp_put) rfl rfl rfl mw_741 mw_742 mw_743 mw_2 mw_744 ⟨by decide +kernel, by decide +kernel, by decide +kernel⟩ (by decide) d_Bh_feed_26)) (os_l (so_aload_n d_Bh_feed_29 rfl)))))) (os_n (os_n (os_n (os_l (so_get (C := R_Bh) (T := F_Bh) (N := 16) (j := 0) in_Bh rfl (by decide) mw_684 d_Bh_feed_30)) (os_n (os_l (so_iload_n d_Bh_feed_33 rfl)) (os_l (so_callV (iv := mi_Tp_put) rfl rfl rfl mw_741 mw_742 mw_743 mw_2 mw_744 ⟨by decide +kernel, by decide +kernel, by decide +kernel⟩ (by decide) d_Bh_feed_34)))) (os_n (os_n (os_l (so_aload_n d_Bh_feed_37 rfl)) (os_l (so_get (C := R_Bh) (T := F_Bh) (N := 16) (j := 0) in_Bh rfl (by decide) mw_684 d_Bh_feed_38))) (os_n (os_l (so_iload d_Bh_feed_41)) (os_l (so_callV (iv := mi_Tp_put) rfl rfl rfl mw_741 mw_742 mw_743 mw_2 mw_744 ⟨by decide +kernel, by decide +kernel, by decide +kernel⟩ (by decide) d_Bh_feed_43))))) (os_n (os_n (os_n (os_l (so_aload_n d_Bh_feed_46 rfl)) (os_l (so_get (C := R_Bh) (T := F_Bh) (N := 16) (j := 0) in_Bh rfl (by decide) mw_684 d_Bh_feed_47))) (os_n (os_l (so_iload d_Bh_feed_50)) (os_l (so_callV (iv := mi_Tp_put) rfl rfl rfl mw_741 mw_742 mw_743 mw_2 mw_744 ⟨by decide +kernel, by decide +kernel, by decide +kernel⟩ (by decide) d_Bh_feed_52)))) (os_n (os_n (os_l (so_aload_n d_Bh_feed_55 rfl)) (os_l (so_get (C := R_Bh) (T := F_Bh) (N := 16) (j := 0) in_Bh rfl (by decide) mw_684 d_Bh_feed_56))) (os_n (os_l (so_get (C := R_Tp) (T := F_Tp) (N := 3) (j := 1) in_Tp rfl (by decide) mw_40 d_Bh_feed_59)) (os_l (so_ireturn rfl d_Bh_feed_62)))))))
abbrev t_Bh_end_169 : List UInt8 := 172 :: []
abbrev t_Bh_end_166 : List UInt8 := 182 :: 0 :: 148 :: t_Bh_end_169
abbrev t_Bh_end_165 : List UInt8 := 42 :: t_Bh_end_166
abbrev t_Bh_end_162 : List UInt8 := 167 :: 0 :: 7 :: t_Bh_end_165
abbrev t_Bh_end_159 : List UInt8 := 182 :: 0 :: 145 :: t_Bh_end_162
abbrev t_Bh_end_158 : List UInt8 := 42 :: t_Bh_end_159
abbrev t_Bh_end_155 : List UInt8 := 160 :: 0 :: 10 :: t_Bh_end_158
abbrev t_Bh_end_154 : List UInt8 := 4 :: t_Bh_end_155
abbrev t_Bh_end_153 : List UInt8 := 27 :: t_Bh_end_154
abbrev t_Bh_end_150 : List UInt8 := 167 :: 0 :: 19 :: t_Bh_end_153
abbrev t_Bh_end_147 : List UInt8 := 182 :: 0 :: 141 :: t_Bh_end_150
abbrev t_Bh_end_146 : List UInt8 := 42 :: t_Bh_end_147
abbrev t_Bh_end_143 : List UInt8 := 154 :: 0 :: 10 :: t_Bh_end_146
abbrev t_Bh_end_142 : List UInt8 := 27 :: t_Bh_end_143
abbrev t_Bh_end_141 : List UInt8 := 172 :: t_Bh_end_142
abbrev t_Bh_end_140 : List UInt8 := 100 :: t_Bh_end_141
abbrev t_Bh_end_138 : List UInt8 := 21 :: 4 :: t_Bh_end_140
abbrev t_Bh_end_136 : List UInt8 := 16 :: 253 :: t_Bh_end_138
abbrev t_Bh_end_133 : List UInt8 := 155 :: 0 :: 9 :: t_Bh_end_136
abbrev t_Bh_end_131 : List UInt8 := 21 :: 4 :: t_Bh_end_133
abbrev t_Bh_end_129 : List UInt8 := 54 :: 4 :: t_Bh_end_131
abbrev t_Bh_end_126 : List UInt8 := 182 :: 0 :: 138 :: t_Bh_end_129
abbrev t_Bh_end_123 : List UInt8 := 180 :: 0 :: 90 :: t_Bh_end_126
abbrev t_Bh_end_122 : List UInt8 := 42 :: t_Bh_end_123
abbrev t_Bh_end_119 : List UInt8 := 180 :: 0 :: 10 :: t_Bh_end_122
abbrev t_Bh_end_118 : List UInt8 := 42 :: t_Bh_end_119
abbrev t_Bh_end_115 : List UInt8 := 180 :: 0 :: 69 :: t_Bh_end_118
abbrev t_Bh_end_114 : List UInt8 := 42 :: t_Bh_end_115
abbrev t_Bh_end_111 : List UInt8 := 167 :: 0 :: 18 :: t_Bh_end_114
abbrev t_Bh_end_108 : List UInt8 := 182 :: 0 :: 137 :: t_Bh_end_111
abbrev t_Bh_end_105 : List UInt8 := 180 :: 0 :: 10 :: t_Bh_end_108
abbrev t_Bh_end_104 : List UInt8 := 42 :: t_Bh_end_105
abbrev t_Bh_end_101 : List UInt8 := 180 :: 0 :: 83 :: t_Bh_end_104
abbrev t_Bh_end_100 : List UInt8 := 42 :: t_Bh_end_101
abbrev t_Bh_end_97 : List UInt8 := 160 :: 0 :: 17 :: t_Bh_end_100
abbrev t_Bh_end_96 : List UInt8 := 4 :: t_Bh_end_97
abbrev t_Bh_end_95 : List UInt8 := 27 :: t_Bh_end_96
abbrev t_Bh_end_92 : List UInt8 := 167 :: 0 :: 37 :: t_Bh_end_95
abbrev t_Bh_end_89 : List UInt8 := 182 :: 0 :: 133 :: t_Bh_end_92
abbrev t_Bh_end_86 : List UInt8 := 180 :: 0 :: 10 :: t_Bh_end_89
abbrev t_Bh_end_85 : List UInt8 := 42 :: t_Bh_end_86
abbrev t_Bh_end_82 : List UInt8 := 180 :: 0 :: 76 :: t_Bh_end_85
abbrev t_Bh_end_81 : List UInt8 := 42 :: t_Bh_end_82
abbrev t_Bh_end_78 : List UInt8 := 154 :: 0 :: 17 :: t_Bh_end_81
abbrev t_Bh_end_77 : List UInt8 := 27 :: t_Bh_end_78
abbrev t_Bh_end_76 : List UInt8 := 172 :: t_Bh_end_77
abbrev t_Bh_end_75 : List UInt8 := 2 :: t_Bh_end_76
abbrev t_Bh_end_72 : List UInt8 := 154 :: 0 :: 5 :: t_Bh_end_75
abbrev t_Bh_end_69 : List UInt8 := 182 :: 0 :: 130 :: t_Bh_end_72
abbrev t_Bh_end_66 : List UInt8 := 180 :: 0 :: 10 :: t_Bh_end_69
abbrev t_Bh_end_65 : List UInt8 := 42 :: t_Bh_end_66
abbrev t_Bh_end_62 : List UInt8 := 153 :: 0 :: 13 :: t_Bh_end_65
abbrev t_Bh_end_61 : List UInt8 := 29 :: t_Bh_end_62
abbrev t_Bh_end_58 : List UInt8 := 181 :: 0 :: 127 :: t_Bh_end_61
abbrev t_Bh_end_57 : List UInt8 := 3 :: t_Bh_end_58
abbrev t_Bh_end_54 : List UInt8 := 167 :: 0 :: 4 :: t_Bh_end_57
abbrev t_Bh_end_53 : List UInt8 := 28 :: t_Bh_end_54
abbrev t_Bh_end_50 : List UInt8 := 153 :: 0 :: 7 :: t_Bh_end_53
abbrev t_Bh_end_49 : List UInt8 := 29 :: t_Bh_end_50
abbrev t_Bh_end_46 : List UInt8 := 180 :: 0 :: 10 :: t_Bh_end_49
abbrev t_Bh_end_45 : List UInt8 := 42 :: t_Bh_end_46
abbrev t_Bh_end_42 : List UInt8 := 181 :: 0 :: 123 :: t_Bh_end_45
abbrev t_Bh_end_41 : List UInt8 := 3 :: t_Bh_end_42
abbrev t_Bh_end_38 : List UInt8 := 180 :: 0 :: 10 :: t_Bh_end_41
abbrev t_Bh_end_37 : List UInt8 := 42 :: t_Bh_end_38
abbrev t_Bh_end_36 : List UInt8 := 62 :: t_Bh_end_37
abbrev t_Bh_end_35 : List UInt8 := 3 :: t_Bh_end_36
abbrev t_Bh_end_32 : List UInt8 := 167 :: 0 :: 4 :: t_Bh_end_35
abbrev t_Bh_end_31 : List UInt8 := 4 :: t_Bh_end_32
abbrev t_Bh_end_28 : List UInt8 := 163 :: 0 :: 7 :: t_Bh_end_31
abbrev t_Bh_end_25 : List UInt8 := 180 :: 0 :: 123 :: t_Bh_end_28
abbrev t_Bh_end_22 : List UInt8 := 180 :: 0 :: 10 :: t_Bh_end_25
abbrev t_Bh_end_21 : List UInt8 := 42 :: t_Bh_end_22
abbrev t_Bh_end_20 : List UInt8 := 28 :: t_Bh_end_21
abbrev t_Bh_end_17 : List UInt8 := 163 :: 0 :: 18 :: t_Bh_end_20
abbrev t_Bh_end_14 : List UInt8 := 17 :: 15 :: 160 :: t_Bh_end_17
abbrev t_Bh_end_13 : List UInt8 := 28 :: t_Bh_end_14
abbrev t_Bh_end_10 : List UInt8 := 155 :: 0 :: 25 :: t_Bh_end_13
abbrev t_Bh_end_9 : List UInt8 := 28 :: t_Bh_end_10
abbrev t_Bh_end_6 : List UInt8 := 163 :: 0 :: 29 :: t_Bh_end_9
abbrev t_Bh_end_5 : List UInt8 := 5 :: t_Bh_end_6
abbrev t_Bh_end_4 : List UInt8 := 27 :: t_Bh_end_5
abbrev t_Bh_end_1 : List UInt8 := 155 :: 0 :: 34 :: t_Bh_end_4
abbrev t_Bh_end_0 : List UInt8 := 27 :: t_Bh_end_1
theorem a_Bh_end_0 : dk_at b_Bh_end 0 t_Bh_end_0 := dk_start (by decide +kernel)
theorem a_Bh_end_1 : dk_at b_Bh_end 1 t_Bh_end_1 := dk_go 1 a_Bh_end_0 rfl
theorem a_Bh_end_4 : dk_at b_Bh_end 4 t_Bh_end_4 := dk_go 3 a_Bh_end_1 rfl
theorem a_Bh_end_5 : dk_at b_Bh_end 5 t_Bh_end_5 := dk_go 1 a_Bh_end_4 rfl
theorem a_Bh_end_6 : dk_at b_Bh_end 6 t_Bh_end_6 := dk_go 1 a_Bh_end_5 rfl
theorem a_Bh_end_9 : dk_at b_Bh_end 9 t_Bh_end_9 := dk_go 3 a_Bh_end_6 rfl
theorem a_Bh_end_10 : dk_at b_Bh_end 10 t_Bh_end_10 := dk_go 1 a_Bh_end_9 rfl
theorem a_Bh_end_13 : dk_at b_Bh_end 13 t_Bh_end_13 := dk_go 3 a_Bh_end_10 rfl
theorem a_Bh_end_14 : dk_at b_Bh_end 14 t_Bh_end_14 := dk_go 1 a_Bh_end_13 rfl
theorem a_Bh_end_17 : dk_at b_Bh_end 17 t_Bh_end_17 := dk_go 3 a_Bh_end_14 rfl
theorem a_Bh_end_20 : dk_at b_Bh_end 20 t_Bh_end_20 := dk_go 3 a_Bh_end_17 rfl
theorem a_Bh_end_21 : dk_at b_Bh_end 21 t_Bh_end_21 := dk_go 1 a_Bh_end_20 rfl
theorem a_Bh_end_22 : dk_at b_Bh_end 22 t_Bh_end_22 := dk_go 1 a_Bh_end_21 rfl
theorem a_Bh_end_25 : dk_at b_Bh_end 25 t_Bh_end_25 := dk_go 3 a_Bh_end_22 rfl
theorem a_Bh_end_28 : dk_at b_Bh_end 28 t_Bh_end_28 := dk_go 3 a_Bh_end_25 rfl
theorem a_Bh_end_31 : dk_at b_Bh_end 31 t_Bh_end_31 := dk_go 3 a_Bh_end_28 rfl
theorem a_Bh_end_32 : dk_at b_Bh_end 32 t_Bh_end_32 := dk_go 1 a_Bh_end_31 rfl
theorem a_Bh_end_35 : dk_at b_Bh_end 35 t_Bh_end_35 := dk_go 3 a_Bh_end_32 rfl
theorem a_Bh_end_36 : dk_at b_Bh_end 36 t_Bh_end_36 := dk_go 1 a_Bh_end_35 rfl
theorem a_Bh_end_37 : dk_at b_Bh_end 37 t_Bh_end_37 := dk_go 1 a_Bh_end_36 rfl
theorem a_Bh_end_38 : dk_at b_Bh_end 38 t_Bh_end_38 := dk_go 1 a_Bh_end_37 rfl
theorem a_Bh_end_41 : dk_at b_Bh_end 41 t_Bh_end_41 := dk_go 3 a_Bh_end_38 rfl
theorem a_Bh_end_42 : dk_at b_Bh_end 42 t_Bh_end_42 := dk_go 1 a_Bh_end_41 rfl
theorem a_Bh_end_45 : dk_at b_Bh_end 45 t_Bh_end_45 := dk_go 3 a_Bh_end_42 rfl
theorem a_Bh_end_46 : dk_at b_Bh_end 46 t_Bh_end_46 := dk_go 1 a_Bh_end_45 rfl
theorem a_Bh_end_49 : dk_at b_Bh_end 49 t_Bh_end_49 := dk_go 3 a_Bh_end_46 rfl
theorem a_Bh_end_50 : dk_at b_Bh_end 50 t_Bh_end_50 := dk_go 1 a_Bh_end_49 rfl
theorem a_Bh_end_53 : dk_at b_Bh_end 53 t_Bh_end_53 := dk_go 3 a_Bh_end_50 rfl
theorem a_Bh_end_54 : dk_at b_Bh_end 54 t_Bh_end_54 := dk_go 1 a_Bh_end_53 rfl
theorem a_Bh_end_57 : dk_at b_Bh_end 57 t_Bh_end_57 := dk_go 3 a_Bh_end_54 rfl
theorem a_Bh_end_58 : dk_at b_Bh_end 58 t_Bh_end_58 := dk_go 1 a_Bh_end_57 rfl
theorem a_Bh_end_61 : dk_at b_Bh_end 61 t_Bh_end_61 := dk_go 3 a_Bh_end_58 rfl
theorem a_Bh_end_62 : dk_at b_Bh_end 62 t_Bh_end_62 := dk_go 1 a_Bh_end_61 rfl
theorem a_Bh_end_65 : dk_at b_Bh_end 65 t_Bh_end_65 := dk_go 3 a_Bh_end_62 rfl
theorem a_Bh_end_66 : dk_at b_Bh_end 66 t_Bh_end_66 := dk_go 1 a_Bh_end_65 rfl
theorem a_Bh_end_69 : dk_at b_Bh_end 69 t_Bh_end_69 := dk_go 3 a_Bh_end_66 rfl
theorem a_Bh_end_72 : dk_at b_Bh_end 72 t_Bh_end_72 := dk_go 3 a_Bh_end_69 rfl
theorem a_Bh_end_75 : dk_at b_Bh_end 75 t_Bh_end_75 := dk_go 3 a_Bh_end_72 rfl
theorem a_Bh_end_76 : dk_at b_Bh_end 76 t_Bh_end_76 := dk_go 1 a_Bh_end_75 rfl
theorem a_Bh_end_77 : dk_at b_Bh_end 77 t_Bh_end_77 := dk_go 1 a_Bh_end_76 rfl
theorem a_Bh_end_78 : dk_at b_Bh_end 78 t_Bh_end_78 := dk_go 1 a_Bh_end_77 rfl
theorem a_Bh_end_81 : dk_at b_Bh_end 81 t_Bh_end_81 := dk_go 3 a_Bh_end_78 rfl
theorem a_Bh_end_82 : dk_at b_Bh_end 82 t_Bh_end_82 := dk_go 1 a_Bh_end_81 rfl
theorem a_Bh_end_85 : dk_at b_Bh_end 85 t_Bh_end_85 := dk_go 3 a_Bh_end_82 rfl
theorem a_Bh_end_86 : dk_at b_Bh_end 86 t_Bh_end_86 := dk_go 1 a_Bh_end_85 rfl
theorem a_Bh_end_89 : dk_at b_Bh_end 89 t_Bh_end_89 := dk_go 3 a_Bh_end_86 rfl
theorem a_Bh_end_92 : dk_at b_Bh_end 92 t_Bh_end_92 := dk_go 3 a_Bh_end_89 rfl
theorem a_Bh_end_95 : dk_at b_Bh_end 95 t_Bh_end_95 := dk_go 3 a_Bh_end_92 rfl
theorem a_Bh_end_96 : dk_at b_Bh_end 96 t_Bh_end_96 := dk_go 1 a_Bh_end_95 rfl
theorem a_Bh_end_97 : dk_at b_Bh_end 97 t_Bh_end_97 := dk_go 1 a_Bh_end_96 rfl
theorem a_Bh_end_100 : dk_at b_Bh_end 100 t_Bh_end_100 := dk_go 3 a_Bh_end_97 rfl
theorem a_Bh_end_101 : dk_at b_Bh_end 101 t_Bh_end_101 := dk_go 1 a_Bh_end_100 rfl
theorem a_Bh_end_104 : dk_at b_Bh_end 104 t_Bh_end_104 := dk_go 3 a_Bh_end_101 rfl
theorem a_Bh_end_105 : dk_at b_Bh_end 105 t_Bh_end_105 := dk_go 1 a_Bh_end_104 rfl
theorem a_Bh_end_108 : dk_at b_Bh_end 108 t_Bh_end_108 := dk_go 3 a_Bh_end_105 rfl
theorem a_Bh_end_111 : dk_at b_Bh_end 111 t_Bh_end_111 := dk_go 3 a_Bh_end_108 rfl
theorem a_Bh_end_114 : dk_at b_Bh_end 114 t_Bh_end_114 := dk_go 3 a_Bh_end_111 rfl
theorem a_Bh_end_115 : dk_at b_Bh_end 115 t_Bh_end_115 := dk_go 1 a_Bh_end_114 rfl
theorem a_Bh_end_118 : dk_at b_Bh_end 118 t_Bh_end_118 := dk_go 3 a_Bh_end_115 rfl
theorem a_Bh_end_119 : dk_at b_Bh_end 119 t_Bh_end_119 := dk_go 1 a_Bh_end_118 rfl
theorem a_Bh_end_122 : dk_at b_Bh_end 122 t_Bh_end_122 := dk_go 3 a_Bh_end_119 rfl
theorem a_Bh_end_123 : dk_at b_Bh_end 123 t_Bh_end_123 := dk_go 1 a_Bh_end_122 rfl
theorem a_Bh_end_126 : dk_at b_Bh_end 126 t_Bh_end_126 := dk_go 3 a_Bh_end_123 rfl
theorem a_Bh_end_129 : dk_at b_Bh_end 129 t_Bh_end_129 := dk_go 3 a_Bh_end_126 rfl
theorem a_Bh_end_131 : dk_at b_Bh_end 131 t_Bh_end_131 := dk_go 2 a_Bh_end_129 rfl
theorem a_Bh_end_133 : dk_at b_Bh_end 133 t_Bh_end_133 := dk_go 2 a_Bh_end_131 rfl
theorem a_Bh_end_136 : dk_at b_Bh_end 136 t_Bh_end_136 := dk_go 3 a_Bh_end_133 rfl
theorem a_Bh_end_138 : dk_at b_Bh_end 138 t_Bh_end_138 := dk_go 2 a_Bh_end_136 rfl
theorem a_Bh_end_140 : dk_at b_Bh_end 140 t_Bh_end_140 := dk_go 2 a_Bh_end_138 rfl
theorem a_Bh_end_141 : dk_at b_Bh_end 141 t_Bh_end_141 := dk_go 1 a_Bh_end_140 rfl
theorem a_Bh_end_142 : dk_at b_Bh_end 142 t_Bh_end_142 := dk_go 1 a_Bh_end_141 rfl
theorem a_Bh_end_143 : dk_at b_Bh_end 143 t_Bh_end_143 := dk_go 1 a_Bh_end_142 rfl
theorem a_Bh_end_146 : dk_at b_Bh_end 146 t_Bh_end_146 := dk_go 3 a_Bh_end_143 rfl
theorem a_Bh_end_147 : dk_at b_Bh_end 147 t_Bh_end_147 := dk_go 1 a_Bh_end_146 rfl
theorem a_Bh_end_150 : dk_at b_Bh_end 150 t_Bh_end_150 := dk_go 3 a_Bh_end_147 rfl
theorem a_Bh_end_153 : dk_at b_Bh_end 153 t_Bh_end_153 := dk_go 3 a_Bh_end_150 rfl
theorem a_Bh_end_154 : dk_at b_Bh_end 154 t_Bh_end_154 := dk_go 1 a_Bh_end_153 rfl
theorem a_Bh_end_155 : dk_at b_Bh_end 155 t_Bh_end_155 := dk_go 1 a_Bh_end_154 rfl
theorem a_Bh_end_158 : dk_at b_Bh_end 158 t_Bh_end_158 := dk_go 3 a_Bh_end_155 rfl
theorem a_Bh_end_159 : dk_at b_Bh_end 159 t_Bh_end_159 := dk_go 1 a_Bh_end_158 rfl
theorem a_Bh_end_162 : dk_at b_Bh_end 162 t_Bh_end_162 := dk_go 3 a_Bh_end_159 rfl
theorem a_Bh_end_165 : dk_at b_Bh_end 165 t_Bh_end_165 := dk_go 3 a_Bh_end_162 rfl
theorem a_Bh_end_166 : dk_at b_Bh_end 166 t_Bh_end_166 := dk_go 1 a_Bh_end_165 rfl
theorem a_Bh_end_169 : dk_at b_Bh_end 169 t_Bh_end_169 := dk_go 3 a_Bh_end_166 rfl
theorem d_Bh_end_0 : decode b_Bh_end 0 = .ok (.iload_n 1, 1) := dk_0 a_Bh_end_0 (dko_27 _)
theorem d_Bh_end_1 : decode b_Bh_end 1 = .ok (.ifCond .lt 34, 3) := dk_S2 a_Bh_end_1 (dko_155 _) (by decide +kernel)
theorem d_Bh_end_4 : decode b_Bh_end 4 = .ok (.iload_n 1, 1) := dk_0 a_Bh_end_4 (dko_27 _)
theorem d_Bh_end_5 : decode b_Bh_end 5 = .ok (.iconst 2, 1) := dk_0 a_Bh_end_5 (dko_5 _)
theorem d_Bh_end_6 : decode b_Bh_end 6 = .ok (.if_icmp .gt 29, 3) := dk_S2 a_Bh_end_6 (dko_163 _) (by decide +kernel)
theorem d_Bh_end_9 : decode b_Bh_end 9 = .ok (.iload_n 2, 1) := dk_0 a_Bh_end_9 (dko_28 _)
theorem d_Bh_end_10 : decode b_Bh_end 10 = .ok (.ifCond .lt 25, 3) := dk_S2 a_Bh_end_10 (dko_155 _) (by decide +kernel)
theorem d_Bh_end_13 : decode b_Bh_end 13 = .ok (.iload_n 2, 1) := dk_0 a_Bh_end_13 (dko_28 _)
theorem d_Bh_end_14 : decode b_Bh_end 14 = .ok (.sipush 4000, 3) := dk_S2 a_Bh_end_14 (dko_17 _) (by decide +kernel)
theorem d_Bh_end_17 : decode b_Bh_end 17 = .ok (.if_icmp .gt 18, 3) := dk_S2 a_Bh_end_17 (dko_163 _) (by decide +kernel)
theorem d_Bh_end_20 : decode b_Bh_end 20 = .ok (.iload_n 2, 1) := dk_0 a_Bh_end_20 (dko_28 _)
theorem d_Bh_end_21 : decode b_Bh_end 21 = .ok (.aload_n 0, 1) := dk_0 a_Bh_end_21 (dko_42 _)
theorem d_Bh_end_22 : decode b_Bh_end 22 = .ok (.getfield 10, 3) := dk_U2 a_Bh_end_22 (dko_180 _) rfl
theorem d_Bh_end_25 : decode b_Bh_end 25 = .ok (.getfield 123, 3) := dk_U2 a_Bh_end_25 (dko_180 _) rfl
theorem d_Bh_end_28 : decode b_Bh_end 28 = .ok (.if_icmp .gt 7, 3) := dk_S2 a_Bh_end_28 (dko_163 _) (by decide +kernel)
theorem d_Bh_end_31 : decode b_Bh_end 31 = .ok (.iconst 1, 1) := dk_0 a_Bh_end_31 (dko_4 _)
theorem d_Bh_end_32 : decode b_Bh_end 32 = .ok (.goto 4, 3) := dk_S2 a_Bh_end_32 (dko_167 _) (by decide +kernel)
theorem d_Bh_end_35 : decode b_Bh_end 35 = .ok (.iconst 0, 1) := dk_0 a_Bh_end_35 (dko_3 _)
theorem d_Bh_end_36 : decode b_Bh_end 36 = .ok (.istore_n 3, 1) := dk_0 a_Bh_end_36 (dko_62 _)
theorem d_Bh_end_37 : decode b_Bh_end 37 = .ok (.aload_n 0, 1) := dk_0 a_Bh_end_37 (dko_42 _)
theorem d_Bh_end_38 : decode b_Bh_end 38 = .ok (.getfield 10, 3) := dk_U2 a_Bh_end_38 (dko_180 _) rfl
theorem d_Bh_end_41 : decode b_Bh_end 41 = .ok (.iconst 0, 1) := dk_0 a_Bh_end_41 (dko_3 _)
theorem d_Bh_end_42 : decode b_Bh_end 42 = .ok (.putfield 123, 3) := dk_U2 a_Bh_end_42 (dko_181 _) rfl
theorem d_Bh_end_45 : decode b_Bh_end 45 = .ok (.aload_n 0, 1) := dk_0 a_Bh_end_45 (dko_42 _)
theorem d_Bh_end_46 : decode b_Bh_end 46 = .ok (.getfield 10, 3) := dk_U2 a_Bh_end_46 (dko_180 _) rfl
theorem d_Bh_end_49 : decode b_Bh_end 49 = .ok (.iload_n 3, 1) := dk_0 a_Bh_end_49 (dko_29 _)
theorem d_Bh_end_50 : decode b_Bh_end 50 = .ok (.ifCond .eq 7, 3) := dk_S2 a_Bh_end_50 (dko_153 _) (by decide +kernel)
theorem d_Bh_end_53 : decode b_Bh_end 53 = .ok (.iload_n 2, 1) := dk_0 a_Bh_end_53 (dko_28 _)
theorem d_Bh_end_54 : decode b_Bh_end 54 = .ok (.goto 4, 3) := dk_S2 a_Bh_end_54 (dko_167 _) (by decide +kernel)
theorem d_Bh_end_57 : decode b_Bh_end 57 = .ok (.iconst 0, 1) := dk_0 a_Bh_end_57 (dko_3 _)
theorem d_Bh_end_58 : decode b_Bh_end 58 = .ok (.putfield 127, 3) := dk_U2 a_Bh_end_58 (dko_181 _) rfl
theorem d_Bh_end_61 : decode b_Bh_end 61 = .ok (.iload_n 3, 1) := dk_0 a_Bh_end_61 (dko_29 _)
theorem d_Bh_end_62 : decode b_Bh_end 62 = .ok (.ifCond .eq 13, 3) := dk_S2 a_Bh_end_62 (dko_153 _) (by decide +kernel)
theorem d_Bh_end_65 : decode b_Bh_end 65 = .ok (.aload_n 0, 1) := dk_0 a_Bh_end_65 (dko_42 _)
theorem d_Bh_end_66 : decode b_Bh_end 66 = .ok (.getfield 10, 3) := dk_U2 a_Bh_end_66 (dko_180 _) rfl
theorem d_Bh_end_69 : decode b_Bh_end 69 = .ok (.invokevirtual 130, 3) := dk_U2 a_Bh_end_69 (dko_182 _) rfl
theorem d_Bh_end_72 : decode b_Bh_end 72 = .ok (.ifCond .ne 5, 3) := dk_S2 a_Bh_end_72 (dko_154 _) (by decide +kernel)
theorem d_Bh_end_75 : decode b_Bh_end 75 = .ok (.iconst (-1), 1) := dk_0 a_Bh_end_75 (dko_2 _)
theorem d_Bh_end_76 : decode b_Bh_end 76 = .ok (.ireturn, 1) := dk_0 a_Bh_end_76 (dko_172 _)
theorem d_Bh_end_77 : decode b_Bh_end 77 = .ok (.iload_n 1, 1) := dk_0 a_Bh_end_77 (dko_27 _)
theorem d_Bh_end_78 : decode b_Bh_end 78 = .ok (.ifCond .ne 17, 3) := dk_S2 a_Bh_end_78 (dko_154 _) (by decide +kernel)
theorem d_Bh_end_81 : decode b_Bh_end 81 = .ok (.aload_n 0, 1) := dk_0 a_Bh_end_81 (dko_42 _)
theorem d_Bh_end_82 : decode b_Bh_end 82 = .ok (.getfield 76, 3) := dk_U2 a_Bh_end_82 (dko_180 _) rfl
theorem d_Bh_end_85 : decode b_Bh_end 85 = .ok (.aload_n 0, 1) := dk_0 a_Bh_end_85 (dko_42 _)
theorem d_Bh_end_86 : decode b_Bh_end 86 = .ok (.getfield 10, 3) := dk_U2 a_Bh_end_86 (dko_180 _) rfl
theorem d_Bh_end_89 : decode b_Bh_end 89 = .ok (.invokevirtual 133, 3) := dk_U2 a_Bh_end_89 (dko_182 _) rfl
theorem d_Bh_end_92 : decode b_Bh_end 92 = .ok (.goto 37, 3) := dk_S2 a_Bh_end_92 (dko_167 _) (by decide +kernel)
theorem d_Bh_end_95 : decode b_Bh_end 95 = .ok (.iload_n 1, 1) := dk_0 a_Bh_end_95 (dko_27 _)
theorem d_Bh_end_96 : decode b_Bh_end 96 = .ok (.iconst 1, 1) := dk_0 a_Bh_end_96 (dko_4 _)
theorem d_Bh_end_97 : decode b_Bh_end 97 = .ok (.if_icmp .ne 17, 3) := dk_S2 a_Bh_end_97 (dko_160 _) (by decide +kernel)
theorem d_Bh_end_100 : decode b_Bh_end 100 = .ok (.aload_n 0, 1) := dk_0 a_Bh_end_100 (dko_42 _)
theorem d_Bh_end_101 : decode b_Bh_end 101 = .ok (.getfield 83, 3) := dk_U2 a_Bh_end_101 (dko_180 _) rfl
theorem d_Bh_end_104 : decode b_Bh_end 104 = .ok (.aload_n 0, 1) := dk_0 a_Bh_end_104 (dko_42 _)
theorem d_Bh_end_105 : decode b_Bh_end 105 = .ok (.getfield 10, 3) := dk_U2 a_Bh_end_105 (dko_180 _) rfl
theorem d_Bh_end_108 : decode b_Bh_end 108 = .ok (.invokevirtual 137, 3) := dk_U2 a_Bh_end_108 (dko_182 _) rfl
theorem d_Bh_end_111 : decode b_Bh_end 111 = .ok (.goto 18, 3) := dk_S2 a_Bh_end_111 (dko_167 _) (by decide +kernel)
theorem d_Bh_end_114 : decode b_Bh_end 114 = .ok (.aload_n 0, 1) := dk_0 a_Bh_end_114 (dko_42 _)
theorem d_Bh_end_115 : decode b_Bh_end 115 = .ok (.getfield 69, 3) := dk_U2 a_Bh_end_115 (dko_180 _) rfl
theorem d_Bh_end_118 : decode b_Bh_end 118 = .ok (.aload_n 0, 1) := dk_0 a_Bh_end_118 (dko_42 _)
theorem d_Bh_end_119 : decode b_Bh_end 119 = .ok (.getfield 10, 3) := dk_U2 a_Bh_end_119 (dko_180 _) rfl
theorem d_Bh_end_122 : decode b_Bh_end 122 = .ok (.aload_n 0, 1) := dk_0 a_Bh_end_122 (dko_42 _)
theorem d_Bh_end_123 : decode b_Bh_end 123 = .ok (.getfield 90, 3) := dk_U2 a_Bh_end_123 (dko_180 _) rfl
theorem d_Bh_end_126 : decode b_Bh_end 126 = .ok (.invokevirtual 138, 3) := dk_U2 a_Bh_end_126 (dko_182 _) rfl
theorem d_Bh_end_129 : decode b_Bh_end 129 = .ok (.istore 4, 2) := dk_U1 a_Bh_end_129 (dko_54 _) rfl
theorem d_Bh_end_131 : decode b_Bh_end 131 = .ok (.iload 4, 2) := dk_U1 a_Bh_end_131 (dko_21 _) rfl
theorem d_Bh_end_133 : decode b_Bh_end 133 = .ok (.ifCond .lt 9, 3) := dk_S2 a_Bh_end_133 (dko_155 _) (by decide +kernel)
theorem d_Bh_end_136 : decode b_Bh_end 136 = .ok (.bipush (-3), 2) := dk_S1 a_Bh_end_136 (dko_16 _) (by decide +kernel)
theorem d_Bh_end_138 : decode b_Bh_end 138 = .ok (.iload 4, 2) := dk_U1 a_Bh_end_138 (dko_21 _) rfl
theorem d_Bh_end_140 : decode b_Bh_end 140 = .ok (.isub, 1) := dk_0 a_Bh_end_140 (dko_100 _)
theorem d_Bh_end_141 : decode b_Bh_end 141 = .ok (.ireturn, 1) := dk_0 a_Bh_end_141 (dko_172 _)
theorem d_Bh_end_142 : decode b_Bh_end 142 = .ok (.iload_n 1, 1) := dk_0 a_Bh_end_142 (dko_27 _)
theorem d_Bh_end_143 : decode b_Bh_end 143 = .ok (.ifCond .ne 10, 3) := dk_S2 a_Bh_end_143 (dko_154 _) (by decide +kernel)
theorem d_Bh_end_146 : decode b_Bh_end 146 = .ok (.aload_n 0, 1) := dk_0 a_Bh_end_146 (dko_42 _)
theorem d_Bh_end_147 : decode b_Bh_end 147 = .ok (.invokevirtual 141, 3) := dk_U2 a_Bh_end_147 (dko_182 _) rfl
theorem d_Bh_end_150 : decode b_Bh_end 150 = .ok (.goto 19, 3) := dk_S2 a_Bh_end_150 (dko_167 _) (by decide +kernel)
theorem d_Bh_end_153 : decode b_Bh_end 153 = .ok (.iload_n 1, 1) := dk_0 a_Bh_end_153 (dko_27 _)
theorem d_Bh_end_154 : decode b_Bh_end 154 = .ok (.iconst 1, 1) := dk_0 a_Bh_end_154 (dko_4 _)
theorem d_Bh_end_155 : decode b_Bh_end 155 = .ok (.if_icmp .ne 10, 3) := dk_S2 a_Bh_end_155 (dko_160 _) (by decide +kernel)
theorem d_Bh_end_158 : decode b_Bh_end 158 = .ok (.aload_n 0, 1) := dk_0 a_Bh_end_158 (dko_42 _)
theorem d_Bh_end_159 : decode b_Bh_end 159 = .ok (.invokevirtual 145, 3) := dk_U2 a_Bh_end_159 (dko_182 _) rfl
theorem d_Bh_end_162 : decode b_Bh_end 162 = .ok (.goto 7, 3) := dk_S2 a_Bh_end_162 (dko_167 _) (by decide +kernel)
theorem d_Bh_end_165 : decode b_Bh_end 165 = .ok (.aload_n 0, 1) := dk_0 a_Bh_end_165 (dko_42 _)
theorem d_Bh_end_166 : decode b_Bh_end 166 = .ok (.invokevirtual 148, 3) := dk_U2 a_Bh_end_166 (dko_182 _) rfl
theorem d_Bh_end_169 : decode b_Bh_end 169 = .ok (.ireturn, 1) := dk_0 a_Bh_end_169 (dko_172 _)
set_option maxHeartbeats 4000000 in
set_option maxRecDepth 100000 in
theorem ok_Bh_end (pc : Nat) : OpS mt mi_Bh_end pc (cs_Bh_end pc) := (os_n (os_n (os_n (os_n (os_n (os_n (os_l (so_iload_n d_Bh_end_0 rfl)) (os_l (so_iflt d_Bh_end_1 (by decide)))) (os_n (os_l (so_iload_n d_Bh_end_4 rfl)) (os_n (os_l (so_iconst d_Bh_end_5 (by decide))) (os_l (so_icgt d_Bh_end_6 (by decide)))))) (os_n (os_n (os_l (so_iload_n d_Bh_end_9 rfl)) (os_l (so_iflt d_Bh_end_10 (by decide)))) (os_n (os_l (so_iload_n d_Bh_end_13 rfl)) (os_n (os_l (so_sipush d_Bh_end_14 (by decide))) (os_l (so_icgt d_Bh_end_17 (by decide))))))) (os_n (os_n (os_n (os_l (so_iload_n d_Bh_end_20 rfl)) (os_l (so_aload_n d_Bh_end_21 rfl))) (os_n (os_l (so_get (C := R_Bh) (T := F_Bh) (N := 16) (j := 0) in_Bh rfl (by decide) mw_684 d_Bh_end_22)) (os_n (os_l (so_get (C := R_Tp) (T := F_Tp) (N := 3) (j := 1) in_Tp rfl (by decide) mw_40 d_Bh_end_25)) (os_l (so_icgt d_Bh_end_28 (by decide)))))) (os_n (os_n (os_l (so_iconst d_Bh_end_31 (by decide))) (os_n (os_l (so_goto d_Bh_end_32 (by decide))) (os_l (so_iconst d_Bh_end_35 (by decide))))) (os_n (os_l (so_istore_n d_Bh_end_36 rfl (by decide))) (os_n (os_l (so_aload_n d_Bh_end_37 rfl)) (os_l (so_get (C := R_Bh) (T := F_Bh) (N := 16) (j := 0) in_Bh rfl (by decide) mw_684 d_Bh_end_38))))))) (os_n (os_n (os_n (os_n (os_l (so_iconst d_Bh_end_41 (by decide))) (os_l (so_putI (C := R_Tp) (T := F_Tp) (N := 3) (j := 1) in_Tp t_Tp_ok n_Tp rfl (by decide) mw_40 rfl (by decide +kernel) d_Bh_end_42))) (os_n (os_l (so_aload_n d_Bh_end_45 rfl)) (os_n (os_l (so_get (C := R_Bh) (T := F_Bh) (N := 16) (j := 0) in_Bh rfl (by decide) mw_684 d_Bh_end_46)) (os_l (so_iload_n d_Bh_end_49 rfl))))) (os_n (os_n (os_l (so_ifeq d_Bh_end_50 (by decide))) (os_l (so_iload_n d_Bh_end_53 rfl))) (os_n (os_l (so_goto d_Bh_end_54 (by decide))) (os_n (os_l (so_iconst d_Bh_end_57 (by decide))) (os_l (so_putI (C := R_Tp) (T := F_Tp) (N := 3) (j := 2) in_Tp t_Tp_ok n_Tp rfl (by decide) mw_42 rfl (by decide +kernel) d_Bh_end_58)))))) (os_n (os_n (os_n (os_l (so_iload_n d_Bh_end_61 rfl)) (os_l (so_ifeq d_Bh_end_62 (by decide)))) (os_n (os_l (so_aload_n d_Bh_end_65 rfl)) (os_n (os_l (so_get (C := R_Bh) (T := F_Bh) (N := 16) (j := 0) in_Bh rfl (by decide) mw_684 d_Bh_end_66)) (os_l (so_callV (iv := mi_Tp_isText) rfl rfl rfl mw_749 mw_750 mw_751 mw_2 mw_752 ⟨by decide +kernel, by decide +kernel, by decide +kernel⟩ (by decide) d_Bh_end_69))))) (os_n (os_n (os_l (so_ifne d_Bh_end_72 (by decide))) (os_n (os_l (so_iconst d_Bh_end_75 (by decide))) (os_l (so_ireturn rfl d_Bh_end_76)))) (os_n (os_l (so_iload_n d_Bh_end_77 rfl)) (os_n (os_l (so_ifne d_Bh_end_78 (by decide))) (os_l (so_aload_n d_Bh_end_81 rfl)))))))) (os_n (os_n (os_n (os_n (os_n (os_l (so_get (C := R_Bh) (T := F_Bh) (N := 16) (j := 8) in_Bh rfl (by decide) mw_692 d_Bh_end_82)) (os_l (so_aload_n d_Bh_end_85 rfl))) (os_n (os_l (so_get (C := R_Bh) (T := F_Bh) (N := 16) (j := 0) in_Bh rfl (by decide) mw_684 d_Bh_end_86)) (os_n (os_l (so_callV (iv := mi_Pl_read) rfl rfl rfl mw_757 mw_758 mw_759 mw_5 mw_760 ⟨by decide +kernel, by decide +kernel, by decide +kernel⟩ (by decide) d_Bh_end_89)) (os_l (so_goto d_Bh_end_92 (by decide)))))) (os_n (os_n (os_l (so_iload_n d_Bh_end_95 rfl)) (os_l (so_iconst d_Bh_end_96 (by decide)))) (os_n (os_l (so_icne d_Bh_end_97 (by decide))) (os_n (os_l (so_aload_n d_Bh_end_100 rfl)) (os_l (so_get (C := R_Bh) (T := F_Bh) (N := 16) (j := 9) in_Bh rfl (by decide) mw_693 d_Bh_end_101)))))) (os_n (os_n (os_n (os_l (so_aload_n d_Bh_end_104 rfl)) (os_l (so_get (C := R_Bh) (T := F_Bh) (N := 16) (j := 0) in_Bh rfl (by decide) mw_684 d_Bh_end_105))) (os_n (os_l (so_callV (iv := mi_Ro_read) rfl rfl rfl mw_811 mw_812 mw_813 mw_10 mw_814 ⟨by decide +kernel, by decide +kernel, by decide +kernel⟩ (by decide) d_Bh_end_108)) (os_n (os_l (so_goto d_Bh_end_111 (by decide))) (os_l (so_aload_n d_Bh_end_114 rfl))))) (os_n (os_n (os_l (so_get (C := R_Bh) (T := F_Bh) (N := 16) (j := 7) in_Bh rfl (by decide) mw_691 d_Bh_end_115)) (os_n (os_l (so_aload_n d_Bh_end_118 rfl)) (os_l (so_get (C := R_Bh) (T := F_Bh) (N := 16) (j := 0) in_Bh rfl (by decide) mw_684 d_Bh_end_119)))) (os_n (os_l (so_aload_n d_Bh_end_122 rfl)) (os_n (os_l (so_get (C := R_Bh) (T := F_Bh) (N := 16) (j := 10) in_Bh rfl (by decide) mw_694 d_Bh_end_123)) (os_l (so_callV (iv := mi_Rd_read) rfl rfl rfl mw_879 mw_880 mw_881 mw_13 mw_882 ⟨by decide +kernel, by decide +kernel, by decide +kernel⟩ (by decide) d_Bh_end_126))))))) (os_n (os_n (os_n (os_n (os_l (so_istore d_Bh_end_129 (by decide))) (os_l (so_iload d_Bh_end_131))) (os_n (os_l (so_iflt d_Bh_end_133 (by decide))) (os_n (os_l (so_bipush d_Bh_end_136 (by decide))) (os_l (so_iload d_Bh_end_138))))) (os_n (os_n (os_l (so_isub d_Bh_end_140)) (os_l (so_ireturn rfl d_Bh_end_141))) (os_n (os_l (so_iload_n d_Bh_end_142 rfl)) (os_n (os_l (so_ifne d_Bh_end_143 (by decide))) (os_l (so_aload_n d_Bh_end_146 rfl)))))) (os_n (os_n (os_n (os_l (so_callV (iv := mi_Bh_takePlant) rfl rfl rfl mw_1012 mw_1014 sl_42 mw_1 mw_1015 ⟨by decide +kernel, by decide +kernel, by decide +kernel⟩ (by decide) d_Bh_end_147)) (os_l (so_goto d_Bh_end_150 (by decide)))) (os_n (os_l (so_iload_n d_Bh_end_153 rfl)) (os_n (os_l (so_iconst d_Bh_end_154 (by decide))) (os_l (so_icne d_Bh_end_155 (by decide)))))) (os_n (os_n (os_l (so_aload_n d_Bh_end_158 rfl)) (os_n (os_l (so_callV (iv := mi_Bh_takeRows) rfl rfl rfl mw_1043 mw_1045 sl_43 mw_1 mw_1046 ⟨by decide +kernel, by decide +kernel, by decide +kernel⟩ (by decide) d_Bh_end_159)) (os_l (so_goto d_Bh_end_162 (by decide))))) (os_n (os_l (so_aload_n d_Bh_end_165 rfl)) (os_n (os_l (so_callV (iv := mi_Bh_takeProgram) rfl rfl rfl mw_1047 mw_1049 sl_44 mw_1 mw_1050 ⟨by decide +kernel, by decide +kernel, by decide +kernel⟩ (by decide) d_Bh_end_166)) (os_l (so_ireturn rfl d_Bh_end_169)))))))))
abbrev t_Bh_takePlant_67 : List UInt8 := 172 :: []
abbrev t_Bh_takePlant_64 : List UInt8 := 180 :: 0 :: 171 :: t_Bh_takePlant_67
abbrev t_Bh_takePlant_61 : List UInt8 := 180 :: 0 :: 151 :: t_Bh_takePlant_64
abbrev t_Bh_takePlant_58 : List UInt8 := 180 :: 0 :: 26 :: t_Bh_takePlant_61
abbrev t_Bh_takePlant_57 : List UInt8 := 42 :: t_Bh_takePlant_58
abbrev t_Bh_takePlant_54 : List UInt8 := 181 :: 0 :: 168 :: t_Bh_takePlant_57
abbrev t_Bh_takePlant_51 : List UInt8 := 182 :: 0 :: 164 :: t_Bh_takePlant_54
abbrev t_Bh_takePlant_48 : List UInt8 := 180 :: 0 :: 94 :: t_Bh_takePlant_51
abbrev t_Bh_takePlant_47 : List UInt8 := 42 :: t_Bh_takePlant_48
abbrev t_Bh_takePlant_44 : List UInt8 := 180 :: 0 :: 151 :: t_Bh_takePlant_47
abbrev t_Bh_takePlant_41 : List UInt8 := 180 :: 0 :: 26 :: t_Bh_takePlant_44
abbrev t_Bh_takePlant_40 : List UInt8 := 42 :: t_Bh_takePlant_41
abbrev t_Bh_takePlant_39 : List UInt8 := 42 :: t_Bh_takePlant_40
abbrev t_Bh_takePlant_36 : List UInt8 := 181 :: 0 :: 161 :: t_Bh_takePlant_39
abbrev t_Bh_takePlant_35 : List UInt8 := 7 :: t_Bh_takePlant_36
abbrev t_Bh_takePlant_32 : List UInt8 := 180 :: 0 :: 62 :: t_Bh_takePlant_35
abbrev t_Bh_takePlant_31 : List UInt8 := 42 :: t_Bh_takePlant_32
abbrev t_Bh_takePlant_28 : List UInt8 := 182 :: 0 :: 158 :: t_Bh_takePlant_31
abbrev t_Bh_takePlant_25 : List UInt8 := 180 :: 0 :: 35 :: t_Bh_takePlant_28
abbrev t_Bh_takePlant_24 : List UInt8 := 42 :: t_Bh_takePlant_25
abbrev t_Bh_takePlant_21 : List UInt8 := 181 :: 0 :: 76 :: t_Bh_takePlant_24
abbrev t_Bh_takePlant_20 : List UInt8 := 43 :: t_Bh_takePlant_21
abbrev t_Bh_takePlant_19 : List UInt8 := 42 :: t_Bh_takePlant_20
abbrev t_Bh_takePlant_16 : List UInt8 := 182 :: 0 :: 154 :: t_Bh_takePlant_19
abbrev t_Bh_takePlant_13 : List UInt8 := 180 :: 0 :: 76 :: t_Bh_takePlant_16
abbrev t_Bh_takePlant_12 : List UInt8 := 42 :: t_Bh_takePlant_13
abbrev t_Bh_takePlant_9 : List UInt8 := 180 :: 0 :: 26 :: t_Bh_takePlant_12
abbrev t_Bh_takePlant_8 : List UInt8 := 42 :: t_Bh_takePlant_9
abbrev t_Bh_takePlant_7 : List UInt8 := 76 :: t_Bh_takePlant_8
abbrev t_Bh_takePlant_4 : List UInt8 := 180 :: 0 :: 151 :: t_Bh_takePlant_7
abbrev t_Bh_takePlant_1 : List UInt8 := 180 :: 0 :: 26 :: t_Bh_takePlant_4
abbrev t_Bh_takePlant_0 : List UInt8 := 42 :: t_Bh_takePlant_1
theorem a_Bh_takePlant_0 : dk_at b_Bh_takePlant 0 t_Bh_takePlant_0 := dk_start (by decide +kernel)
theorem a_Bh_takePlant_1 : dk_at b_Bh_takePlant 1 t_Bh_takePlant_1 := dk_go 1 a_Bh_takePlant_0 rfl
theorem a_Bh_takePlant_4 : dk_at b_Bh_takePlant 4 t_Bh_takePlant_4 := dk_go 3 a_Bh_takePlant_1 rfl
theorem a_Bh_takePlant_7 : dk_at b_Bh_takePlant 7 t_Bh_takePlant_7 := dk_go 3 a_Bh_takePlant_4 rfl
theorem a_Bh_takePlant_8 : dk_at b_Bh_takePlant 8 t_Bh_takePlant_8 := dk_go 1 a_Bh_takePlant_7 rfl
theorem a_Bh_takePlant_9 : dk_at b_Bh_takePlant 9 t_Bh_takePlant_9 := dk_go 1 a_Bh_takePlant_8 rfl
theorem a_Bh_takePlant_12 : dk_at b_Bh_takePlant 12 t_Bh_takePlant_12 := dk_go 3 a_Bh_takePlant_9 rfl
theorem a_Bh_takePlant_13 : dk_at b_Bh_takePlant 13 t_Bh_takePlant_13 := dk_go 1 a_Bh_takePlant_12 rfl
theorem a_Bh_takePlant_16 : dk_at b_Bh_takePlant 16 t_Bh_takePlant_16 := dk_go 3 a_Bh_takePlant_13 rfl
theorem a_Bh_takePlant_19 : dk_at b_Bh_takePlant 19 t_Bh_takePlant_19 := dk_go 3 a_Bh_takePlant_16 rfl
theorem a_Bh_takePlant_20 : dk_at b_Bh_takePlant 20 t_Bh_takePlant_20 := dk_go 1 a_Bh_takePlant_19 rfl
theorem a_Bh_takePlant_21 : dk_at b_Bh_takePlant 21 t_Bh_takePlant_21 := dk_go 1 a_Bh_takePlant_20 rfl
theorem a_Bh_takePlant_24 : dk_at b_Bh_takePlant 24 t_Bh_takePlant_24 := dk_go 3 a_Bh_takePlant_21 rfl
theorem a_Bh_takePlant_25 : dk_at b_Bh_takePlant 25 t_Bh_takePlant_25 := dk_go 1 a_Bh_takePlant_24 rfl
theorem a_Bh_takePlant_28 : dk_at b_Bh_takePlant 28 t_Bh_takePlant_28 := dk_go 3 a_Bh_takePlant_25 rfl
theorem a_Bh_takePlant_31 : dk_at b_Bh_takePlant 31 t_Bh_takePlant_31 := dk_go 3 a_Bh_takePlant_28 rfl
theorem a_Bh_takePlant_32 : dk_at b_Bh_takePlant 32 t_Bh_takePlant_32 := dk_go 1 a_Bh_takePlant_31 rfl
theorem a_Bh_takePlant_35 : dk_at b_Bh_takePlant 35 t_Bh_takePlant_35 := dk_go 3 a_Bh_takePlant_32 rfl
theorem a_Bh_takePlant_36 : dk_at b_Bh_takePlant 36 t_Bh_takePlant_36 := dk_go 1 a_Bh_takePlant_35 rfl
theorem a_Bh_takePlant_39 : dk_at b_Bh_takePlant 39 t_Bh_takePlant_39 := dk_go 3 a_Bh_takePlant_36 rfl
theorem a_Bh_takePlant_40 : dk_at b_Bh_takePlant 40 t_Bh_takePlant_40 := dk_go 1 a_Bh_takePlant_39 rfl
theorem a_Bh_takePlant_41 : dk_at b_Bh_takePlant 41 t_Bh_takePlant_41 := dk_go 1 a_Bh_takePlant_40 rfl
theorem a_Bh_takePlant_44 : dk_at b_Bh_takePlant 44 t_Bh_takePlant_44 := dk_go 3 a_Bh_takePlant_41 rfl
theorem a_Bh_takePlant_47 : dk_at b_Bh_takePlant 47 t_Bh_takePlant_47 := dk_go 3 a_Bh_takePlant_44 rfl
theorem a_Bh_takePlant_48 : dk_at b_Bh_takePlant 48 t_Bh_takePlant_48 := dk_go 1 a_Bh_takePlant_47 rfl
theorem a_Bh_takePlant_51 : dk_at b_Bh_takePlant 51 t_Bh_takePlant_51 := dk_go 3 a_Bh_takePlant_48 rfl
theorem a_Bh_takePlant_54 : dk_at b_Bh_takePlant 54 t_Bh_takePlant_54 := dk_go 3 a_Bh_takePlant_51 rfl
theorem a_Bh_takePlant_57 : dk_at b_Bh_takePlant 57 t_Bh_takePlant_57 := dk_go 3 a_Bh_takePlant_54 rfl
theorem a_Bh_takePlant_58 : dk_at b_Bh_takePlant 58 t_Bh_takePlant_58 := dk_go 1 a_Bh_takePlant_57 rfl
theorem a_Bh_takePlant_61 : dk_at b_Bh_takePlant 61 t_Bh_takePlant_61 := dk_go 3 a_Bh_takePlant_58 rfl
theorem a_Bh_takePlant_64 : dk_at b_Bh_takePlant 64 t_Bh_takePlant_64 := dk_go 3 a_Bh_takePlant_61 rfl
theorem a_Bh_takePlant_67 : dk_at b_Bh_takePlant 67 t_Bh_takePlant_67 := dk_go 3 a_Bh_takePlant_64 rfl
theorem d_Bh_takePlant_0 : decode b_Bh_takePlant 0 = .ok (.aload_n 0, 1) := dk_0 a_Bh_takePlant_0 (dko_42 _)
theorem d_Bh_takePlant_1 : decode b_Bh_takePlant 1 = .ok (.getfield 26, 3) := dk_U2 a_Bh_takePlant_1 (dko_180 _) rfl
theorem d_Bh_takePlant_4 : decode b_Bh_takePlant 4 = .ok (.getfield 151, 3) := dk_U2 a_Bh_takePlant_4 (dko_180 _) rfl
theorem d_Bh_takePlant_7 : decode b_Bh_takePlant 7 = .ok (.astore_n 1, 1) := dk_0 a_Bh_takePlant_7 (dko_76 _)
theorem d_Bh_takePlant_8 : decode b_Bh_takePlant 8 = .ok (.aload_n 0, 1) := dk_0 a_Bh_takePlant_8 (dko_42 _)
theorem d_Bh_takePlant_9 : decode b_Bh_takePlant 9 = .ok (.getfield 26, 3) := dk_U2 a_Bh_takePlant_9 (dko_180 _) rfl
theorem d_Bh_takePlant_12 : decode b_Bh_takePlant 12 = .ok (.aload_n 0, 1) := dk_0 a_Bh_takePlant_12 (dko_42 _)
theorem d_Bh_takePlant_13 : decode b_Bh_takePlant 13 = .ok (.getfield 76, 3) := dk_U2 a_Bh_takePlant_13 (dko_180 _) rfl
theorem d_Bh_takePlant_16 : decode b_Bh_takePlant 16 = .ok (.invokevirtual 154, 3) := dk_U2 a_Bh_takePlant_16 (dko_182 _) rfl
theorem d_Bh_takePlant_19 : decode b_Bh_takePlant 19 = .ok (.aload_n 0, 1) := dk_0 a_Bh_takePlant_19 (dko_42 _)
theorem d_Bh_takePlant_20 : decode b_Bh_takePlant 20 = .ok (.aload_n 1, 1) := dk_0 a_Bh_takePlant_20 (dko_43 _)
theorem d_Bh_takePlant_21 : decode b_Bh_takePlant 21 = .ok (.putfield 76, 3) := dk_U2 a_Bh_takePlant_21 (dko_181 _) rfl
theorem d_Bh_takePlant_24 : decode b_Bh_takePlant 24 = .ok (.aload_n 0, 1) := dk_0 a_Bh_takePlant_24 (dko_42 _)
theorem d_Bh_takePlant_25 : decode b_Bh_takePlant 25 = .ok (.getfield 35, 3) := dk_U2 a_Bh_takePlant_25 (dko_180 _) rfl
theorem d_Bh_takePlant_28 : decode b_Bh_takePlant 28 = .ok (.invokevirtual 158, 3) := dk_U2 a_Bh_takePlant_28 (dko_182 _) rfl
theorem d_Bh_takePlant_31 : decode b_Bh_takePlant 31 = .ok (.aload_n 0, 1) := dk_0 a_Bh_takePlant_31 (dko_42 _)
theorem d_Bh_takePlant_32 : decode b_Bh_takePlant 32 = .ok (.getfield 62, 3) := dk_U2 a_Bh_takePlant_32 (dko_180 _) rfl
theorem d_Bh_takePlant_35 : decode b_Bh_takePlant 35 = .ok (.iconst 4, 1) := dk_0 a_Bh_takePlant_35 (dko_7 _)
theorem d_Bh_takePlant_36 : decode b_Bh_takePlant 36 = .ok (.putfield 161, 3) := dk_U2 a_Bh_takePlant_36 (dko_181 _) rfl
theorem d_Bh_takePlant_39 : decode b_Bh_takePlant 39 = .ok (.aload_n 0, 1) := dk_0 a_Bh_takePlant_39 (dko_42 _)
theorem d_Bh_takePlant_40 : decode b_Bh_takePlant 40 = .ok (.aload_n 0, 1) := dk_0 a_Bh_takePlant_40 (dko_42 _)
theorem d_Bh_takePlant_41 : decode b_Bh_takePlant 41 = .ok (.getfield 26, 3) := dk_U2 a_Bh_takePlant_41 (dko_180 _) rfl
theorem d_Bh_takePlant_44 : decode b_Bh_takePlant 44 = .ok (.getfield 151, 3) := dk_U2 a_Bh_takePlant_44 (dko_180 _) rfl
theorem d_Bh_takePlant_47 : decode b_Bh_takePlant 47 = .ok (.aload_n 0, 1) := dk_0 a_Bh_takePlant_47 (dko_42 _)
theorem d_Bh_takePlant_48 : decode b_Bh_takePlant 48 = .ok (.getfield 94, 3) := dk_U2 a_Bh_takePlant_48 (dko_180 _) rfl
theorem d_Bh_takePlant_51 : decode b_Bh_takePlant 51 = .ok (.invokevirtual 164, 3) := dk_U2 a_Bh_takePlant_51 (dko_182 _) rfl
theorem d_Bh_takePlant_54 : decode b_Bh_takePlant 54 = .ok (.putfield 168, 3) := dk_U2 a_Bh_takePlant_54 (dko_181 _) rfl
theorem d_Bh_takePlant_57 : decode b_Bh_takePlant 57 = .ok (.aload_n 0, 1) := dk_0 a_Bh_takePlant_57 (dko_42 _)
theorem d_Bh_takePlant_58 : decode b_Bh_takePlant 58 = .ok (.getfield 26, 3) := dk_U2 a_Bh_takePlant_58 (dko_180 _) rfl
theorem d_Bh_takePlant_61 : decode b_Bh_takePlant 61 = .ok (.getfield 151, 3) := dk_U2 a_Bh_takePlant_61 (dko_180 _) rfl
theorem d_Bh_takePlant_64 : decode b_Bh_takePlant 64 = .ok (.getfield 171, 3) := dk_U2 a_Bh_takePlant_64 (dko_180 _) rfl
theorem d_Bh_takePlant_67 : decode b_Bh_takePlant 67 = .ok (.ireturn, 1) := dk_0 a_Bh_takePlant_67 (dko_172 _)
set_option maxHeartbeats 4000000 in
set_option maxRecDepth 100000 in
theorem ok_Bh_takePlant (pc : Nat) : OpS mt mi_Bh_takePlant pc (cs_Bh_takePlant pc) := (os_n (os_n (os_n (os_n (os_n (os_l (so_aload_n d_Bh_takePlant_0 rfl)) (os_l (so_get (C := R_Bh) (T := F_Bh) (N := 16) (j := 2) in_Bh rfl (by decide) mw_686 d_Bh_takePlant_1))) (os_n (os_l (so_get (C := R_St) (T := F_St) (N := 12) (j := 0) in_St rfl (by decide) mw_151 d_Bh_takePlant_4)) (os_l (so_astore_n d_Bh_takePlant_7 rfl (by decide))))) (os_n (os_n (os_l (so_aload_n d_Bh_takePlant_8 rfl)) (os_l (so_get (C := R_Bh) (T := F_Bh) (N := 16) (j := 2) in_Bh rfl (by decide) mw_686 d_Bh_takePlant_9))) (os_n (os_l (so_aload_n d_Bh_takePlant_12 rfl)) (os_l (so_get (C := R_Bh) (T := F_Bh) (N := 16) (j := 8) in_Bh rfl (by decide) mw_692 d_Bh_takePlant_13))))) (os_n (os_n (os_n (os_l (so_callV (iv := mi_St_renew) rfl rfl rfl mw_1016 mw_1017 mw_1018 mw_4 mw_1019 ⟨by decide +kernel, by decide +kernel, by decide +kernel⟩ (by decide) d_Bh_takePlant_16)) (os_l (so_aload_n d_Bh_takePlant_19 rfl))) (os_n (os_l (so_aload_n d_Bh_takePlant_20 rfl)) (os_l (so_putR (D := "BreweryHouse$Plant") (C := R_Bh) (T := F_Bh) (N := 16) (j := 8) in_Bh t_Bh_ok n_Bh rfl (by decide) mw_692 rfl (by decide +kernel) d_Bh_takePlant_21)))) (os_n (os_n (os_l (so_aload_n d_Bh_takePlant_24 rfl)) (os_l (so_get (C := R_Bh) (T := F_Bh) (N := 16) (j := 3) in_Bh rfl (by decide) mw_687 d_Bh_takePlant_25))) (os_n (os_l (so_callV (iv := mi_Wa_forget) rfl rfl rfl mw_1023 mw_1024 mw_1025 mw_7 mw_1026 ⟨by decide +kernel, by decide +kernel, by decide +kernel⟩ (by decide) d_Bh_takePlant_28)) (os_l (so_aload_n d_Bh_takePlant_31 rfl)))))) (os_n (os_n (os_n (os_n (os_l (so_get (C := R_Bh) (T := F_Bh) (N := 16) (j := 6) in_Bh rfl (by decide) mw_690 d_Bh_takePlant_32)) (os_l (so_iconst d_Bh_takePlant_35 (by decide)))) (os_n (os_l (so_putI (C := R_Ru) (T := F_Ru) (N := 21) (j := 4) in_Ru t_Ru_ok n_Ru rfl (by decide) mw_517 rfl (by decide +kernel) d_Bh_takePlant_36)) (os_l (so_aload_n d_Bh_takePlant_39 rfl)))) (os_n (os_n (os_l (so_aload_n d_Bh_takePlant_40 rfl)) (os_l (so_get (C := R_Bh) (T := F_Bh) (N := 16) (j := 2) in_Bh rfl (by decide) mw_686 d_Bh_takePlant_41))) (os_n (os_l (so_get (C := R_St) (T := F_St) (N := 12) (j := 0) in_St rfl (by decide) mw_151 d_Bh_takePlant_44)) (os_l (so_aload_n d_Bh_takePlant_47 rfl))))) (os_n (os_n (os_n (os_l (so_get (C := R_Bh) (T := F_Bh) (N := 16) (j := 11) in_Bh rfl (by decide) mw_695 d_Bh_takePlant_48)) (os_l (so_callV (iv := mi_Pl_writeTo) rfl rfl rfl mw_1028 mw_1029 mw_1030 mw_5 mw_1031 ⟨by decide +kernel, by decide +kernel, by decide +kernel⟩ (by decide) d_Bh_takePlant_51))) (os_n (os_l (so_putI (C := R_Bh) (T := F_Bh) (N := 16) (j := 12) in_Bh t_Bh_ok n_Bh rfl (by decide) mw_696 rfl (by decide +kernel) d_Bh_takePlant_54)) (os_l (so_aload_n d_Bh_takePlant_57 rfl)))) (os_n (os_n (os_l (so_get (C := R_Bh) (T := F_Bh) (N := 16) (j := 2) in_Bh rfl (by decide) mw_686 d_Bh_takePlant_58)) (os_l (so_get (C := R_St) (T := F_St) (N := 12) (j := 0) in_St rfl (by decide) mw_151 d_Bh_takePlant_61))) (os_n (os_l (so_get (C := R_Pl) (T := F_Pl) (N := 12) (j := 0) in_Pl rfl (by decide) mw_89 d_Bh_takePlant_64)) (os_l (so_ireturn rfl d_Bh_takePlant_67)))))))
abbrev t_Bh_takeRows_45 : List UInt8 := 172 :: []
abbrev t_Bh_takeRows_42 : List UInt8 := 180 :: 0 :: 180 :: t_Bh_takeRows_45
abbrev t_Bh_takeRows_39 : List UInt8 := 180 :: 0 :: 174 :: t_Bh_takeRows_42
abbrev t_Bh_takeRows_36 : List UInt8 := 180 :: 0 :: 53 :: t_Bh_takeRows_39
abbrev t_Bh_takeRows_35 : List UInt8 := 42 :: t_Bh_takeRows_36
abbrev t_Bh_takeRows_32 : List UInt8 := 181 :: 0 :: 83 :: t_Bh_takeRows_35
abbrev t_Bh_takeRows_31 : List UInt8 := 43 :: t_Bh_takeRows_32
abbrev t_Bh_takeRows_30 : List UInt8 := 42 :: t_Bh_takeRows_31
abbrev t_Bh_takeRows_27 : List UInt8 := 181 :: 0 :: 174 :: t_Bh_takeRows_30
abbrev t_Bh_takeRows_24 : List UInt8 := 180 :: 0 :: 83 :: t_Bh_takeRows_27
abbrev t_Bh_takeRows_23 : List UInt8 := 42 :: t_Bh_takeRows_24
abbrev t_Bh_takeRows_20 : List UInt8 := 180 :: 0 :: 53 :: t_Bh_takeRows_23
abbrev t_Bh_takeRows_19 : List UInt8 := 42 :: t_Bh_takeRows_20
abbrev t_Bh_takeRows_16 : List UInt8 := 181 :: 0 :: 177 :: t_Bh_takeRows_19
abbrev t_Bh_takeRows_13 : List UInt8 := 180 :: 0 :: 177 :: t_Bh_takeRows_16
abbrev t_Bh_takeRows_12 : List UInt8 := 43 :: t_Bh_takeRows_13
abbrev t_Bh_takeRows_9 : List UInt8 := 180 :: 0 :: 83 :: t_Bh_takeRows_12
abbrev t_Bh_takeRows_8 : List UInt8 := 42 :: t_Bh_takeRows_9
abbrev t_Bh_takeRows_7 : List UInt8 := 76 :: t_Bh_takeRows_8
abbrev t_Bh_takeRows_4 : List UInt8 := 180 :: 0 :: 174 :: t_Bh_takeRows_7
abbrev t_Bh_takeRows_1 : List UInt8 := 180 :: 0 :: 53 :: t_Bh_takeRows_4
abbrev t_Bh_takeRows_0 : List UInt8 := 42 :: t_Bh_takeRows_1
theorem a_Bh_takeRows_0 : dk_at b_Bh_takeRows 0 t_Bh_takeRows_0 := dk_start (by decide +kernel)
theorem a_Bh_takeRows_1 : dk_at b_Bh_takeRows 1 t_Bh_takeRows_1 := dk_go 1 a_Bh_takeRows_0 rfl
theorem a_Bh_takeRows_4 : dk_at b_Bh_takeRows 4 t_Bh_takeRows_4 := dk_go 3 a_Bh_takeRows_1 rfl
theorem a_Bh_takeRows_7 : dk_at b_Bh_takeRows 7 t_Bh_takeRows_7 := dk_go 3 a_Bh_takeRows_4 rfl
theorem a_Bh_takeRows_8 : dk_at b_Bh_takeRows 8 t_Bh_takeRows_8 := dk_go 1 a_Bh_takeRows_7 rfl
theorem a_Bh_takeRows_9 : dk_at b_Bh_takeRows 9 t_Bh_takeRows_9 := dk_go 1 a_Bh_takeRows_8 rfl
theorem a_Bh_takeRows_12 : dk_at b_Bh_takeRows 12 t_Bh_takeRows_12 := dk_go 3 a_Bh_takeRows_9 rfl
theorem a_Bh_takeRows_13 : dk_at b_Bh_takeRows 13 t_Bh_takeRows_13 := dk_go 1 a_Bh_takeRows_12 rfl
theorem a_Bh_takeRows_16 : dk_at b_Bh_takeRows 16 t_Bh_takeRows_16 := dk_go 3 a_Bh_takeRows_13 rfl
theorem a_Bh_takeRows_19 : dk_at b_Bh_takeRows 19 t_Bh_takeRows_19 := dk_go 3 a_Bh_takeRows_16 rfl
theorem a_Bh_takeRows_20 : dk_at b_Bh_takeRows 20 t_Bh_takeRows_20 := dk_go 1 a_Bh_takeRows_19 rfl
theorem a_Bh_takeRows_23 : dk_at b_Bh_takeRows 23 t_Bh_takeRows_23 := dk_go 3 a_Bh_takeRows_20 rfl
theorem a_Bh_takeRows_24 : dk_at b_Bh_takeRows 24 t_Bh_takeRows_24 := dk_go 1 a_Bh_takeRows_23 rfl
theorem a_Bh_takeRows_27 : dk_at b_Bh_takeRows 27 t_Bh_takeRows_27 := dk_go 3 a_Bh_takeRows_24 rfl
theorem a_Bh_takeRows_30 : dk_at b_Bh_takeRows 30 t_Bh_takeRows_30 := dk_go 3 a_Bh_takeRows_27 rfl
theorem a_Bh_takeRows_31 : dk_at b_Bh_takeRows 31 t_Bh_takeRows_31 := dk_go 1 a_Bh_takeRows_30 rfl
theorem a_Bh_takeRows_32 : dk_at b_Bh_takeRows 32 t_Bh_takeRows_32 := dk_go 1 a_Bh_takeRows_31 rfl
theorem a_Bh_takeRows_35 : dk_at b_Bh_takeRows 35 t_Bh_takeRows_35 := dk_go 3 a_Bh_takeRows_32 rfl
theorem a_Bh_takeRows_36 : dk_at b_Bh_takeRows 36 t_Bh_takeRows_36 := dk_go 1 a_Bh_takeRows_35 rfl
theorem a_Bh_takeRows_39 : dk_at b_Bh_takeRows 39 t_Bh_takeRows_39 := dk_go 3 a_Bh_takeRows_36 rfl
theorem a_Bh_takeRows_42 : dk_at b_Bh_takeRows 42 t_Bh_takeRows_42 := dk_go 3 a_Bh_takeRows_39 rfl
theorem a_Bh_takeRows_45 : dk_at b_Bh_takeRows 45 t_Bh_takeRows_45 := dk_go 3 a_Bh_takeRows_42 rfl
theorem d_Bh_takeRows_0 : decode b_Bh_takeRows 0 = .ok (.aload_n 0, 1) := dk_0 a_Bh_takeRows_0 (dko_42 _)
theorem d_Bh_takeRows_1 : decode b_Bh_takeRows 1 = .ok (.getfield 53, 3) := dk_U2 a_Bh_takeRows_1 (dko_180 _) rfl
theorem d_Bh_takeRows_4 : decode b_Bh_takeRows 4 = .ok (.getfield 174, 3) := dk_U2 a_Bh_takeRows_4 (dko_180 _) rfl
theorem d_Bh_takeRows_7 : decode b_Bh_takeRows 7 = .ok (.astore_n 1, 1) := dk_0 a_Bh_takeRows_7 (dko_76 _)
theorem d_Bh_takeRows_8 : decode b_Bh_takeRows 8 = .ok (.aload_n 0, 1) := dk_0 a_Bh_takeRows_8 (dko_42 _)
theorem d_Bh_takeRows_9 : decode b_Bh_takeRows 9 = .ok (.getfield 83, 3) := dk_U2 a_Bh_takeRows_9 (dko_180 _) rfl
theorem d_Bh_takeRows_12 : decode b_Bh_takeRows 12 = .ok (.aload_n 1, 1) := dk_0 a_Bh_takeRows_12 (dko_43 _)
theorem d_Bh_takeRows_13 : decode b_Bh_takeRows 13 = .ok (.getfield 177, 3) := dk_U2 a_Bh_takeRows_13 (dko_180 _) rfl
theorem d_Bh_takeRows_16 : decode b_Bh_takeRows 16 = .ok (.putfield 177, 3) := dk_U2 a_Bh_takeRows_16 (dko_181 _) rfl
theorem d_Bh_takeRows_19 : decode b_Bh_takeRows 19 = .ok (.aload_n 0, 1) := dk_0 a_Bh_takeRows_19 (dko_42 _)
theorem d_Bh_takeRows_20 : decode b_Bh_takeRows 20 = .ok (.getfield 53, 3) := dk_U2 a_Bh_takeRows_20 (dko_180 _) rfl
theorem d_Bh_takeRows_23 : decode b_Bh_takeRows 23 = .ok (.aload_n 0, 1) := dk_0 a_Bh_takeRows_23 (dko_42 _)
theorem d_Bh_takeRows_24 : decode b_Bh_takeRows 24 = .ok (.getfield 83, 3) := dk_U2 a_Bh_takeRows_24 (dko_180 _) rfl
theorem d_Bh_takeRows_27 : decode b_Bh_takeRows 27 = .ok (.putfield 174, 3) := dk_U2 a_Bh_takeRows_27 (dko_181 _) rfl
theorem d_Bh_takeRows_30 : decode b_Bh_takeRows 30 = .ok (.aload_n 0, 1) := dk_0 a_Bh_takeRows_30 (dko_42 _)
theorem d_Bh_takeRows_31 : decode b_Bh_takeRows 31 = .ok (.aload_n 1, 1) := dk_0 a_Bh_takeRows_31 (dko_43 _)
theorem d_Bh_takeRows_32 : decode b_Bh_takeRows 32 = .ok (.putfield 83, 3) := dk_U2 a_Bh_takeRows_32 (dko_181 _) rfl
theorem d_Bh_takeRows_35 : decode b_Bh_takeRows 35 = .ok (.aload_n 0, 1) := dk_0 a_Bh_takeRows_35 (dko_42 _)
theorem d_Bh_takeRows_36 : decode b_Bh_takeRows 36 = .ok (.getfield 53, 3) := dk_U2 a_Bh_takeRows_36 (dko_180 _) rfl
theorem d_Bh_takeRows_39 : decode b_Bh_takeRows 39 = .ok (.getfield 174, 3) := dk_U2 a_Bh_takeRows_39 (dko_180 _) rfl
theorem d_Bh_takeRows_42 : decode b_Bh_takeRows 42 = .ok (.getfield 180, 3) := dk_U2 a_Bh_takeRows_42 (dko_180 _) rfl
theorem d_Bh_takeRows_45 : decode b_Bh_takeRows 45 = .ok (.ireturn, 1) := dk_0 a_Bh_takeRows_45 (dko_172 _)
set_option maxHeartbeats 4000000 in
set_option maxRecDepth 100000 in
theorem ok_Bh_takeRows (pc : Nat) : OpS mt mi_Bh_takeRows pc (cs_Bh_takeRows pc) := (os_n (os_n (os_n (os_n (os_l (so_aload_n d_Bh_takeRows_0 rfl)) (os_l (so_get (C := R_Bh) (T := F_Bh) (N := 16) (j := 5) in_Bh rfl (by decide) mw_689 d_Bh_takeRows_1))) (os_n (os_l (so_get (C := R_Ac) (T := F_Ac) (N := 8) (j := 3) in_Ac rfl (by decide) mw_394 d_Bh_takeRows_4)) (os_n (os_l (so_astore_n d_Bh_takeRows_7 rfl (by decide))) (os_l (so_aload_n d_Bh_takeRows_8 rfl))))) (os_n (os_n (os_l (so_get (C := R_Bh) (T := F_Bh) (N := 16) (j := 9) in_Bh rfl (by decide) mw_693 d_Bh_takeRows_9)) (os_n (os_l (so_aload_n d_Bh_takeRows_12 rfl)) (os_l (so_get (C := R_Ro) (T := F_Ro) (N := 18) (j := 1) in_Ro rfl (by decide) mw_332 d_Bh_takeRows_13)))) (os_n (os_l (so_putI (C := R_Ro) (T := F_Ro) (N := 18) (j := 1) in_Ro t_Ro_ok n_Ro rfl (by decide) mw_332 rfl (by decide +kernel) d_Bh_takeRows_16)) (os_n (os_l (so_aload_n d_Bh_takeRows_19 rfl)) (os_l (so_get (C := R_Bh) (T := F_Bh) (N := 16) (j := 5) in_Bh rfl (by decide) mw_689 d_Bh_takeRows_20)))))) (os_n (os_n (os_n (os_l (so_aload_n d_Bh_takeRows_23 rfl)) (os_l (so_get (C := R_Bh) (T := F_Bh) (N := 16) (j := 9) in_Bh rfl (by decide) mw_693 d_Bh_takeRows_24))) (os_n (os_l (so_putR (D := "BreweryHouse$Rows") (C := R_Ac) (T := F_Ac) (N := 8) (j := 3) in_Ac t_Ac_ok n_Ac rfl (by decide) mw_394 rfl (by decide +kernel) d_Bh_takeRows_27)) (os_n (os_l (so_aload_n d_Bh_takeRows_30 rfl)) (os_l (so_aload_n d_Bh_takeRows_31 rfl))))) (os_n (os_n (os_l (so_putR (D := "BreweryHouse$Rows") (C := R_Bh) (T := F_Bh) (N := 16) (j := 9) in_Bh t_Bh_ok n_Bh rfl (by decide) mw_693 rfl (by decide +kernel) d_Bh_takeRows_32)) (os_n (os_l (so_aload_n d_Bh_takeRows_35 rfl)) (os_l (so_get (C := R_Bh) (T := F_Bh) (N := 16) (j := 5) in_Bh rfl (by decide) mw_689 d_Bh_takeRows_36)))) (os_n (os_l (so_get (C := R_Ac) (T := F_Ac) (N := 8) (j := 3) in_Ac rfl (by decide) mw_394 d_Bh_takeRows_39)) (os_n (os_l (so_get (C := R_Ro) (T := F_Ro) (N := 18) (j := 0) in_Ro rfl (by decide) mw_330 d_Bh_takeRows_42)) (os_l (so_ireturn rfl d_Bh_takeRows_45)))))))
abbrev t_Bh_takeProgram_41 : List UInt8 := 172 :: []
abbrev t_Bh_takeProgram_38 : List UInt8 := 180 :: 0 :: 193 :: t_Bh_takeProgram_41
abbrev t_Bh_takeProgram_35 : List UInt8 := 180 :: 0 :: 183 :: t_Bh_takeProgram_38
abbrev t_Bh_takeProgram_32 : List UInt8 := 180 :: 0 :: 62 :: t_Bh_takeProgram_35
abbrev t_Bh_takeProgram_31 : List UInt8 := 42 :: t_Bh_takeProgram_32
abbrev t_Bh_takeProgram_28 : List UInt8 := 182 :: 0 :: 190 :: t_Bh_takeProgram_31
abbrev t_Bh_takeProgram_25 : List UInt8 := 180 :: 0 :: 35 :: t_Bh_takeProgram_28
abbrev t_Bh_takeProgram_24 : List UInt8 := 42 :: t_Bh_takeProgram_25
abbrev t_Bh_takeProgram_21 : List UInt8 := 181 :: 0 :: 90 :: t_Bh_takeProgram_24
abbrev t_Bh_takeProgram_20 : List UInt8 := 43 :: t_Bh_takeProgram_21
abbrev t_Bh_takeProgram_19 : List UInt8 := 42 :: t_Bh_takeProgram_20
abbrev t_Bh_takeProgram_16 : List UInt8 := 182 :: 0 :: 186 :: t_Bh_takeProgram_19
abbrev t_Bh_takeProgram_13 : List UInt8 := 180 :: 0 :: 90 :: t_Bh_takeProgram_16
abbrev t_Bh_takeProgram_12 : List UInt8 := 42 :: t_Bh_takeProgram_13
abbrev t_Bh_takeProgram_9 : List UInt8 := 180 :: 0 :: 62 :: t_Bh_takeProgram_12
abbrev t_Bh_takeProgram_8 : List UInt8 := 42 :: t_Bh_takeProgram_9
abbrev t_Bh_takeProgram_7 : List UInt8 := 76 :: t_Bh_takeProgram_8
abbrev t_Bh_takeProgram_4 : List UInt8 := 180 :: 0 :: 183 :: t_Bh_takeProgram_7
abbrev t_Bh_takeProgram_1 : List UInt8 := 180 :: 0 :: 62 :: t_Bh_takeProgram_4
abbrev t_Bh_takeProgram_0 : List UInt8 := 42 :: t_Bh_takeProgram_1
theorem a_Bh_takeProgram_0 : dk_at b_Bh_takeProgram 0 t_Bh_takeProgram_0 := dk_start (by decide +kernel)
theorem a_Bh_takeProgram_1 : dk_at b_Bh_takeProgram 1 t_Bh_takeProgram_1 := dk_go 1 a_Bh_takeProgram_0 rfl
theorem a_Bh_takeProgram_4 : dk_at b_Bh_takeProgram 4 t_Bh_takeProgram_4 := dk_go 3 a_Bh_takeProgram_1 rfl
theorem a_Bh_takeProgram_7 : dk_at b_Bh_takeProgram 7 t_Bh_takeProgram_7 := dk_go 3 a_Bh_takeProgram_4 rfl
theorem a_Bh_takeProgram_8 : dk_at b_Bh_takeProgram 8 t_Bh_takeProgram_8 := dk_go 1 a_Bh_takeProgram_7 rfl
theorem a_Bh_takeProgram_9 : dk_at b_Bh_takeProgram 9 t_Bh_takeProgram_9 := dk_go 1 a_Bh_takeProgram_8 rfl
theorem a_Bh_takeProgram_12 : dk_at b_Bh_takeProgram 12 t_Bh_takeProgram_12 := dk_go 3 a_Bh_takeProgram_9 rfl
theorem a_Bh_takeProgram_13 : dk_at b_Bh_takeProgram 13 t_Bh_takeProgram_13 := dk_go 1 a_Bh_takeProgram_12 rfl
theorem a_Bh_takeProgram_16 : dk_at b_Bh_takeProgram 16 t_Bh_takeProgram_16 := dk_go 3 a_Bh_takeProgram_13 rfl
theorem a_Bh_takeProgram_19 : dk_at b_Bh_takeProgram 19 t_Bh_takeProgram_19 := dk_go 3 a_Bh_takeProgram_16 rfl
theorem a_Bh_takeProgram_20 : dk_at b_Bh_takeProgram 20 t_Bh_takeProgram_20 := dk_go 1 a_Bh_takeProgram_19 rfl
theorem a_Bh_takeProgram_21 : dk_at b_Bh_takeProgram 21 t_Bh_takeProgram_21 := dk_go 1 a_Bh_takeProgram_20 rfl
theorem a_Bh_takeProgram_24 : dk_at b_Bh_takeProgram 24 t_Bh_takeProgram_24 := dk_go 3 a_Bh_takeProgram_21 rfl
theorem a_Bh_takeProgram_25 : dk_at b_Bh_takeProgram 25 t_Bh_takeProgram_25 := dk_go 1 a_Bh_takeProgram_24 rfl
theorem a_Bh_takeProgram_28 : dk_at b_Bh_takeProgram 28 t_Bh_takeProgram_28 := dk_go 3 a_Bh_takeProgram_25 rfl
theorem a_Bh_takeProgram_31 : dk_at b_Bh_takeProgram 31 t_Bh_takeProgram_31 := dk_go 3 a_Bh_takeProgram_28 rfl
theorem a_Bh_takeProgram_32 : dk_at b_Bh_takeProgram 32 t_Bh_takeProgram_32 := dk_go 1 a_Bh_takeProgram_31 rfl
theorem a_Bh_takeProgram_35 : dk_at b_Bh_takeProgram 35 t_Bh_takeProgram_35 := dk_go 3 a_Bh_takeProgram_32 rfl
theorem a_Bh_takeProgram_38 : dk_at b_Bh_takeProgram 38 t_Bh_takeProgram_38 := dk_go 3 a_Bh_takeProgram_35 rfl
theorem a_Bh_takeProgram_41 : dk_at b_Bh_takeProgram 41 t_Bh_takeProgram_41 := dk_go 3 a_Bh_takeProgram_38 rfl
theorem d_Bh_takeProgram_0 : decode b_Bh_takeProgram 0 = .ok (.aload_n 0, 1) := dk_0 a_Bh_takeProgram_0 (dko_42 _)
theorem d_Bh_takeProgram_1 : decode b_Bh_takeProgram 1 = .ok (.getfield 62, 3) := dk_U2 a_Bh_takeProgram_1 (dko_180 _) rfl
theorem d_Bh_takeProgram_4 : decode b_Bh_takeProgram 4 = .ok (.getfield 183, 3) := dk_U2 a_Bh_takeProgram_4 (dko_180 _) rfl
theorem d_Bh_takeProgram_7 : decode b_Bh_takeProgram 7 = .ok (.astore_n 1, 1) := dk_0 a_Bh_takeProgram_7 (dko_76 _)
theorem d_Bh_takeProgram_8 : decode b_Bh_takeProgram 8 = .ok (.aload_n 0, 1) := dk_0 a_Bh_takeProgram_8 (dko_42 _)
theorem d_Bh_takeProgram_9 : decode b_Bh_takeProgram 9 = .ok (.getfield 62, 3) := dk_U2 a_Bh_takeProgram_9 (dko_180 _) rfl
theorem d_Bh_takeProgram_12 : decode b_Bh_takeProgram 12 = .ok (.aload_n 0, 1) := dk_0 a_Bh_takeProgram_12 (dko_42 _)
theorem d_Bh_takeProgram_13 : decode b_Bh_takeProgram 13 = .ok (.getfield 90, 3) := dk_U2 a_Bh_takeProgram_13 (dko_180 _) rfl
theorem d_Bh_takeProgram_16 : decode b_Bh_takeProgram 16 = .ok (.invokevirtual 186, 3) := dk_U2 a_Bh_takeProgram_16 (dko_182 _) rfl
theorem d_Bh_takeProgram_19 : decode b_Bh_takeProgram 19 = .ok (.aload_n 0, 1) := dk_0 a_Bh_takeProgram_19 (dko_42 _)
theorem d_Bh_takeProgram_20 : decode b_Bh_takeProgram 20 = .ok (.aload_n 1, 1) := dk_0 a_Bh_takeProgram_20 (dko_43 _)
theorem d_Bh_takeProgram_21 : decode b_Bh_takeProgram 21 = .ok (.putfield 90, 3) := dk_U2 a_Bh_takeProgram_21 (dko_181 _) rfl
theorem d_Bh_takeProgram_24 : decode b_Bh_takeProgram 24 = .ok (.aload_n 0, 1) := dk_0 a_Bh_takeProgram_24 (dko_42 _)
theorem d_Bh_takeProgram_25 : decode b_Bh_takeProgram 25 = .ok (.getfield 35, 3) := dk_U2 a_Bh_takeProgram_25 (dko_180 _) rfl
theorem d_Bh_takeProgram_28 : decode b_Bh_takeProgram 28 = .ok (.invokevirtual 190, 3) := dk_U2 a_Bh_takeProgram_28 (dko_182 _) rfl
theorem d_Bh_takeProgram_31 : decode b_Bh_takeProgram 31 = .ok (.aload_n 0, 1) := dk_0 a_Bh_takeProgram_31 (dko_42 _)
theorem d_Bh_takeProgram_32 : decode b_Bh_takeProgram 32 = .ok (.getfield 62, 3) := dk_U2 a_Bh_takeProgram_32 (dko_180 _) rfl
theorem d_Bh_takeProgram_35 : decode b_Bh_takeProgram 35 = .ok (.getfield 183, 3) := dk_U2 a_Bh_takeProgram_35 (dko_180 _) rfl
theorem d_Bh_takeProgram_38 : decode b_Bh_takeProgram 38 = .ok (.getfield 193, 3) := dk_U2 a_Bh_takeProgram_38 (dko_180 _) rfl
theorem d_Bh_takeProgram_41 : decode b_Bh_takeProgram 41 = .ok (.ireturn, 1) := dk_0 a_Bh_takeProgram_41 (dko_172 _)
set_option maxHeartbeats 4000000 in
set_option maxRecDepth 100000 in
theorem ok_Bh_takeProgram (pc : Nat) : OpS mt mi_Bh_takeProgram pc (cs_Bh_takeProgram pc) := (os_n (os_n (os_n (os_n (os_l (so_aload_n d_Bh_takeProgram_0 rfl)) (os_l (so_get (C := R_Bh) (T := F_Bh) (N := 16) (j := 6) in_Bh rfl (by decide) mw_690 d_Bh_takeProgram_1))) (os_n (os_l (so_get (C := R_Ru) (T := F_Ru) (N := 21) (j := 3) in_Ru rfl (by decide) mw_515 d_Bh_takeProgram_4)) (os_n (os_l (so_astore_n d_Bh_takeProgram_7 rfl (by decide))) (os_l (so_aload_n d_Bh_takeProgram_8 rfl))))) (os_n (os_n (os_l (so_get (C := R_Bh) (T := F_Bh) (N := 16) (j := 6) in_Bh rfl (by decide) mw_690 d_Bh_takeProgram_9)) (os_l (so_aload_n d_Bh_takeProgram_12 rfl))) (os_n (os_l (so_get (C := R_Bh) (T := F_Bh) (N := 16) (j := 10) in_Bh rfl (by decide) mw_694 d_Bh_takeProgram_13)) (os_n (os_l (so_callV (iv := mi_Ru_take) rfl rfl rfl mw_1051 mw_1052 mw_1053 mw_11 mw_1054 ⟨by decide +kernel, by decide +kernel, by decide +kernel⟩ (by decide) d_Bh_takeProgram_16)) (os_l (so_aload_n d_Bh_takeProgram_19 rfl)))))) (os_n (os_n (os_n (os_l (so_aload_n d_Bh_takeProgram_20 rfl)) (os_l (so_putR (D := "BreweryHouse$Program") (C := R_Bh) (T := F_Bh) (N := 16) (j := 10) in_Bh t_Bh_ok n_Bh rfl (by decide) mw_694 rfl (by decide +kernel) d_Bh_takeProgram_21))) (os_n (os_l (so_aload_n d_Bh_takeProgram_24 rfl)) (os_n (os_l (so_get (C := R_Bh) (T := F_Bh) (N := 16) (j := 3) in_Bh rfl (by decide) mw_687 d_Bh_takeProgram_25)) (os_l (so_callV (iv := mi_Wa_closeAll) rfl rfl rfl mw_1063 mw_1064 mw_1065 mw_7 mw_1066 ⟨by decide +kernel, by decide +kernel, by decide +kernel⟩ (by decide) d_Bh_takeProgram_28))))) (os_n (os_n (os_l (so_aload_n d_Bh_takeProgram_31 rfl)) (os_l (so_get (C := R_Bh) (T := F_Bh) (N := 16) (j := 6) in_Bh rfl (by decide) mw_690 d_Bh_takeProgram_32))) (os_n (os_l (so_get (C := R_Ru) (T := F_Ru) (N := 21) (j := 3) in_Ru rfl (by decide) mw_515 d_Bh_takeProgram_35)) (os_n (os_l (so_get (C := R_Pr) (T := F_Pr) (N := 18) (j := 0) in_Pr rfl (by decide) mw_429 d_Bh_takeProgram_38)) (os_l (so_ireturn rfl d_Bh_takeProgram_41)))))))
abbrev t_Bh_fill_135 : List UInt8 := 172 :: []
abbrev t_Bh_fill_133 : List UInt8 := 21 :: 6 :: t_Bh_fill_135
abbrev t_Bh_fill_130 : List UInt8 := 182 :: 0 :: 221 :: t_Bh_fill_133
abbrev t_Bh_fill_129 : List UInt8 := 136 :: t_Bh_fill_130
abbrev t_Bh_fill_128 : List UInt8 := 33 :: t_Bh_fill_129
abbrev t_Bh_fill_127 : List UInt8 := 28 :: t_Bh_fill_128
abbrev t_Bh_fill_126 : List UInt8 := 27 :: t_Bh_fill_127
abbrev t_Bh_fill_123 : List UInt8 := 180 :: 0 :: 26 :: t_Bh_fill_126
abbrev t_Bh_fill_122 : List UInt8 := 42 :: t_Bh_fill_123
abbrev t_Bh_fill_119 : List UInt8 := 153 :: 0 :: 14 :: t_Bh_fill_122
abbrev t_Bh_fill_117 : List UInt8 := 21 :: 6 :: t_Bh_fill_119
abbrev t_Bh_fill_116 : List UInt8 := 79 :: t_Bh_fill_117
abbrev t_Bh_fill_114 : List UInt8 := 21 :: 5 :: t_Bh_fill_116
abbrev t_Bh_fill_113 : List UInt8 := 27 :: t_Bh_fill_114
abbrev t_Bh_fill_110 : List UInt8 := 180 :: 0 :: 215 :: t_Bh_fill_113
abbrev t_Bh_fill_107 : List UInt8 := 180 :: 0 :: 26 :: t_Bh_fill_110
abbrev t_Bh_fill_106 : List UInt8 := 42 :: t_Bh_fill_107
abbrev t_Bh_fill_104 : List UInt8 := 54 :: 6 :: t_Bh_fill_106
abbrev t_Bh_fill_101 : List UInt8 := 182 :: 0 :: 218 :: t_Bh_fill_104
abbrev t_Bh_fill_98 : List UInt8 := 180 :: 0 :: 44 :: t_Bh_fill_101
abbrev t_Bh_fill_97 : List UInt8 := 42 :: t_Bh_fill_98
abbrev t_Bh_fill_96 : List UInt8 := 79 :: t_Bh_fill_97
abbrev t_Bh_fill_95 : List UInt8 := 28 :: t_Bh_fill_96
abbrev t_Bh_fill_94 : List UInt8 := 27 :: t_Bh_fill_95
abbrev t_Bh_fill_91 : List UInt8 := 180 :: 0 :: 215 :: t_Bh_fill_94
abbrev t_Bh_fill_88 : List UInt8 := 180 :: 0 :: 26 :: t_Bh_fill_91
abbrev t_Bh_fill_87 : List UInt8 := 42 :: t_Bh_fill_88
abbrev t_Bh_fill_85 : List UInt8 := 54 :: 5 :: t_Bh_fill_87
abbrev t_Bh_fill_84 : List UInt8 := 46 :: t_Bh_fill_85
abbrev t_Bh_fill_83 : List UInt8 := 27 :: t_Bh_fill_84
abbrev t_Bh_fill_80 : List UInt8 := 180 :: 0 :: 215 :: t_Bh_fill_83
abbrev t_Bh_fill_77 : List UInt8 := 180 :: 0 :: 26 :: t_Bh_fill_80
abbrev t_Bh_fill_76 : List UInt8 := 42 :: t_Bh_fill_77
abbrev t_Bh_fill_75 : List UInt8 := 172 :: t_Bh_fill_76
abbrev t_Bh_fill_74 : List UInt8 := 3 :: t_Bh_fill_75
abbrev t_Bh_fill_71 : List UInt8 := 154 :: 0 :: 5 :: t_Bh_fill_74
abbrev t_Bh_fill_68 : List UInt8 := 182 :: 0 :: 211 :: t_Bh_fill_71
abbrev t_Bh_fill_67 : List UInt8 := 28 :: t_Bh_fill_68
abbrev t_Bh_fill_66 : List UInt8 := 27 :: t_Bh_fill_67
abbrev t_Bh_fill_63 : List UInt8 := 180 :: 0 :: 26 :: t_Bh_fill_66
abbrev t_Bh_fill_62 : List UInt8 := 42 :: t_Bh_fill_63
abbrev t_Bh_fill_59 : List UInt8 := 157 :: 0 :: 15 :: t_Bh_fill_62
abbrev t_Bh_fill_58 : List UInt8 := 148 :: t_Bh_fill_59
abbrev t_Bh_fill_57 : List UInt8 := 133 :: t_Bh_fill_58
abbrev t_Bh_fill_56 : List UInt8 := 100 :: t_Bh_fill_57
abbrev t_Bh_fill_55 : List UInt8 := 46 :: t_Bh_fill_56
abbrev t_Bh_fill_54 : List UInt8 := 27 :: t_Bh_fill_55
abbrev t_Bh_fill_51 : List UInt8 := 180 :: 0 :: 208 :: t_Bh_fill_54
abbrev t_Bh_fill_48 : List UInt8 := 180 :: 0 :: 26 :: t_Bh_fill_51
abbrev t_Bh_fill_47 : List UInt8 := 42 :: t_Bh_fill_48
abbrev t_Bh_fill_46 : List UInt8 := 46 :: t_Bh_fill_47
abbrev t_Bh_fill_45 : List UInt8 := 27 :: t_Bh_fill_46
abbrev t_Bh_fill_42 : List UInt8 := 180 :: 0 :: 205 :: t_Bh_fill_45
abbrev t_Bh_fill_39 : List UInt8 := 180 :: 0 :: 151 :: t_Bh_fill_42
abbrev t_Bh_fill_36 : List UInt8 := 180 :: 0 :: 26 :: t_Bh_fill_39
abbrev t_Bh_fill_35 : List UInt8 := 42 :: t_Bh_fill_36
abbrev t_Bh_fill_34 : List UInt8 := 33 :: t_Bh_fill_35
abbrev t_Bh_fill_33 : List UInt8 := 172 :: t_Bh_fill_34
abbrev t_Bh_fill_32 : List UInt8 := 3 :: t_Bh_fill_33
abbrev t_Bh_fill_29 : List UInt8 := 158 :: 0 :: 5 :: t_Bh_fill_32
abbrev t_Bh_fill_28 : List UInt8 := 148 :: t_Bh_fill_29
abbrev t_Bh_fill_25 : List UInt8 := 20 :: 0 :: 203 :: t_Bh_fill_28
abbrev t_Bh_fill_24 : List UInt8 := 33 :: t_Bh_fill_25
abbrev t_Bh_fill_21 : List UInt8 := 155 :: 0 :: 11 :: t_Bh_fill_24
abbrev t_Bh_fill_20 : List UInt8 := 148 :: t_Bh_fill_21
abbrev t_Bh_fill_19 : List UInt8 := 10 :: t_Bh_fill_20
abbrev t_Bh_fill_18 : List UInt8 := 33 :: t_Bh_fill_19
abbrev t_Bh_fill_15 : List UInt8 := 153 :: 0 :: 17 :: t_Bh_fill_18
abbrev t_Bh_fill_12 : List UInt8 := 184 :: 0 :: 200 :: t_Bh_fill_15
abbrev t_Bh_fill_11 : List UInt8 := 28 :: t_Bh_fill_12
abbrev t_Bh_fill_8 : List UInt8 := 153 :: 0 :: 24 :: t_Bh_fill_11
abbrev t_Bh_fill_5 : List UInt8 := 182 :: 0 :: 196 :: t_Bh_fill_8
abbrev t_Bh_fill_4 : List UInt8 := 27 :: t_Bh_fill_5
abbrev t_Bh_fill_1 : List UInt8 := 180 :: 0 :: 26 :: t_Bh_fill_4
abbrev t_Bh_fill_0 : List UInt8 := 42 :: t_Bh_fill_1
theorem a_Bh_fill_0 : dk_at b_Bh_fill 0 t_Bh_fill_0 := dk_start (by decide +kernel)
theorem a_Bh_fill_1 : dk_at b_Bh_fill 1 t_Bh_fill_1 := dk_go 1 a_Bh_fill_0 rfl
theorem a_Bh_fill_4 : dk_at b_Bh_fill 4 t_Bh_fill_4 := dk_go 3 a_Bh_fill_1 rfl
theorem a_Bh_fill_5 : dk_at b_Bh_fill 5 t_Bh_fill_5 := dk_go 1 a_Bh_fill_4 rfl
theorem a_Bh_fill_8 : dk_at b_Bh_fill 8 t_Bh_fill_8 := dk_go 3 a_Bh_fill_5 rfl
theorem a_Bh_fill_11 : dk_at b_Bh_fill 11 t_Bh_fill_11 := dk_go 3 a_Bh_fill_8 rfl
theorem a_Bh_fill_12 : dk_at b_Bh_fill 12 t_Bh_fill_12 := dk_go 1 a_Bh_fill_11 rfl
theorem a_Bh_fill_15 : dk_at b_Bh_fill 15 t_Bh_fill_15 := dk_go 3 a_Bh_fill_12 rfl
theorem a_Bh_fill_18 : dk_at b_Bh_fill 18 t_Bh_fill_18 := dk_go 3 a_Bh_fill_15 rfl
theorem a_Bh_fill_19 : dk_at b_Bh_fill 19 t_Bh_fill_19 := dk_go 1 a_Bh_fill_18 rfl
theorem a_Bh_fill_20 : dk_at b_Bh_fill 20 t_Bh_fill_20 := dk_go 1 a_Bh_fill_19 rfl
theorem a_Bh_fill_21 : dk_at b_Bh_fill 21 t_Bh_fill_21 := dk_go 1 a_Bh_fill_20 rfl
theorem a_Bh_fill_24 : dk_at b_Bh_fill 24 t_Bh_fill_24 := dk_go 3 a_Bh_fill_21 rfl
theorem a_Bh_fill_25 : dk_at b_Bh_fill 25 t_Bh_fill_25 := dk_go 1 a_Bh_fill_24 rfl
theorem a_Bh_fill_28 : dk_at b_Bh_fill 28 t_Bh_fill_28 := dk_go 3 a_Bh_fill_25 rfl
theorem a_Bh_fill_29 : dk_at b_Bh_fill 29 t_Bh_fill_29 := dk_go 1 a_Bh_fill_28 rfl
theorem a_Bh_fill_32 : dk_at b_Bh_fill 32 t_Bh_fill_32 := dk_go 3 a_Bh_fill_29 rfl
theorem a_Bh_fill_33 : dk_at b_Bh_fill 33 t_Bh_fill_33 := dk_go 1 a_Bh_fill_32 rfl
theorem a_Bh_fill_34 : dk_at b_Bh_fill 34 t_Bh_fill_34 := dk_go 1 a_Bh_fill_33 rfl
theorem a_Bh_fill_35 : dk_at b_Bh_fill 35 t_Bh_fill_35 := dk_go 1 a_Bh_fill_34 rfl
theorem a_Bh_fill_36 : dk_at b_Bh_fill 36 t_Bh_fill_36 := dk_go 1 a_Bh_fill_35 rfl
theorem a_Bh_fill_39 : dk_at b_Bh_fill 39 t_Bh_fill_39 := dk_go 3 a_Bh_fill_36 rfl
theorem a_Bh_fill_42 : dk_at b_Bh_fill 42 t_Bh_fill_42 := dk_go 3 a_Bh_fill_39 rfl
theorem a_Bh_fill_45 : dk_at b_Bh_fill 45 t_Bh_fill_45 := dk_go 3 a_Bh_fill_42 rfl
theorem a_Bh_fill_46 : dk_at b_Bh_fill 46 t_Bh_fill_46 := dk_go 1 a_Bh_fill_45 rfl
theorem a_Bh_fill_47 : dk_at b_Bh_fill 47 t_Bh_fill_47 := dk_go 1 a_Bh_fill_46 rfl
theorem a_Bh_fill_48 : dk_at b_Bh_fill 48 t_Bh_fill_48 := dk_go 1 a_Bh_fill_47 rfl
theorem a_Bh_fill_51 : dk_at b_Bh_fill 51 t_Bh_fill_51 := dk_go 3 a_Bh_fill_48 rfl
theorem a_Bh_fill_54 : dk_at b_Bh_fill 54 t_Bh_fill_54 := dk_go 3 a_Bh_fill_51 rfl
theorem a_Bh_fill_55 : dk_at b_Bh_fill 55 t_Bh_fill_55 := dk_go 1 a_Bh_fill_54 rfl
theorem a_Bh_fill_56 : dk_at b_Bh_fill 56 t_Bh_fill_56 := dk_go 1 a_Bh_fill_55 rfl
theorem a_Bh_fill_57 : dk_at b_Bh_fill 57 t_Bh_fill_57 := dk_go 1 a_Bh_fill_56 rfl
theorem a_Bh_fill_58 : dk_at b_Bh_fill 58 t_Bh_fill_58 := dk_go 1 a_Bh_fill_57 rfl
theorem a_Bh_fill_59 : dk_at b_Bh_fill 59 t_Bh_fill_59 := dk_go 1 a_Bh_fill_58 rfl
theorem a_Bh_fill_62 : dk_at b_Bh_fill 62 t_Bh_fill_62 := dk_go 3 a_Bh_fill_59 rfl
theorem a_Bh_fill_63 : dk_at b_Bh_fill 63 t_Bh_fill_63 := dk_go 1 a_Bh_fill_62 rfl
theorem a_Bh_fill_66 : dk_at b_Bh_fill 66 t_Bh_fill_66 := dk_go 3 a_Bh_fill_63 rfl
theorem a_Bh_fill_67 : dk_at b_Bh_fill 67 t_Bh_fill_67 := dk_go 1 a_Bh_fill_66 rfl
theorem a_Bh_fill_68 : dk_at b_Bh_fill 68 t_Bh_fill_68 := dk_go 1 a_Bh_fill_67 rfl
theorem a_Bh_fill_71 : dk_at b_Bh_fill 71 t_Bh_fill_71 := dk_go 3 a_Bh_fill_68 rfl
theorem a_Bh_fill_74 : dk_at b_Bh_fill 74 t_Bh_fill_74 := dk_go 3 a_Bh_fill_71 rfl
theorem a_Bh_fill_75 : dk_at b_Bh_fill 75 t_Bh_fill_75 := dk_go 1 a_Bh_fill_74 rfl
theorem a_Bh_fill_76 : dk_at b_Bh_fill 76 t_Bh_fill_76 := dk_go 1 a_Bh_fill_75 rfl
theorem a_Bh_fill_77 : dk_at b_Bh_fill 77 t_Bh_fill_77 := dk_go 1 a_Bh_fill_76 rfl
theorem a_Bh_fill_80 : dk_at b_Bh_fill 80 t_Bh_fill_80 := dk_go 3 a_Bh_fill_77 rfl
theorem a_Bh_fill_83 : dk_at b_Bh_fill 83 t_Bh_fill_83 := dk_go 3 a_Bh_fill_80 rfl
theorem a_Bh_fill_84 : dk_at b_Bh_fill 84 t_Bh_fill_84 := dk_go 1 a_Bh_fill_83 rfl
theorem a_Bh_fill_85 : dk_at b_Bh_fill 85 t_Bh_fill_85 := dk_go 1 a_Bh_fill_84 rfl
theorem a_Bh_fill_87 : dk_at b_Bh_fill 87 t_Bh_fill_87 := dk_go 2 a_Bh_fill_85 rfl
theorem a_Bh_fill_88 : dk_at b_Bh_fill 88 t_Bh_fill_88 := dk_go 1 a_Bh_fill_87 rfl
theorem a_Bh_fill_91 : dk_at b_Bh_fill 91 t_Bh_fill_91 := dk_go 3 a_Bh_fill_88 rfl
theorem a_Bh_fill_94 : dk_at b_Bh_fill 94 t_Bh_fill_94 := dk_go 3 a_Bh_fill_91 rfl
theorem a_Bh_fill_95 : dk_at b_Bh_fill 95 t_Bh_fill_95 := dk_go 1 a_Bh_fill_94 rfl
theorem a_Bh_fill_96 : dk_at b_Bh_fill 96 t_Bh_fill_96 := dk_go 1 a_Bh_fill_95 rfl
theorem a_Bh_fill_97 : dk_at b_Bh_fill 97 t_Bh_fill_97 := dk_go 1 a_Bh_fill_96 rfl
theorem a_Bh_fill_98 : dk_at b_Bh_fill 98 t_Bh_fill_98 := dk_go 1 a_Bh_fill_97 rfl
theorem a_Bh_fill_101 : dk_at b_Bh_fill 101 t_Bh_fill_101 := dk_go 3 a_Bh_fill_98 rfl
theorem a_Bh_fill_104 : dk_at b_Bh_fill 104 t_Bh_fill_104 := dk_go 3 a_Bh_fill_101 rfl
theorem a_Bh_fill_106 : dk_at b_Bh_fill 106 t_Bh_fill_106 := dk_go 2 a_Bh_fill_104 rfl
theorem a_Bh_fill_107 : dk_at b_Bh_fill 107 t_Bh_fill_107 := dk_go 1 a_Bh_fill_106 rfl
theorem a_Bh_fill_110 : dk_at b_Bh_fill 110 t_Bh_fill_110 := dk_go 3 a_Bh_fill_107 rfl
theorem a_Bh_fill_113 : dk_at b_Bh_fill 113 t_Bh_fill_113 := dk_go 3 a_Bh_fill_110 rfl
theorem a_Bh_fill_114 : dk_at b_Bh_fill 114 t_Bh_fill_114 := dk_go 1 a_Bh_fill_113 rfl
theorem a_Bh_fill_116 : dk_at b_Bh_fill 116 t_Bh_fill_116 := dk_go 2 a_Bh_fill_114 rfl
theorem a_Bh_fill_117 : dk_at b_Bh_fill 117 t_Bh_fill_117 := dk_go 1 a_Bh_fill_116 rfl
theorem a_Bh_fill_119 : dk_at b_Bh_fill 119 t_Bh_fill_119 := dk_go 2 a_Bh_fill_117 rfl
theorem a_Bh_fill_122 : dk_at b_Bh_fill 122 t_Bh_fill_122 := dk_go 3 a_Bh_fill_119 rfl
theorem a_Bh_fill_123 : dk_at b_Bh_fill 123 t_Bh_fill_123 := dk_go 1 a_Bh_fill_122 rfl
theorem a_Bh_fill_126 : dk_at b_Bh_fill 126 t_Bh_fill_126 := dk_go 3 a_Bh_fill_123 rfl
theorem a_Bh_fill_127 : dk_at b_Bh_fill 127 t_Bh_fill_127 := dk_go 1 a_Bh_fill_126 rfl
theorem a_Bh_fill_128 : dk_at b_Bh_fill 128 t_Bh_fill_128 := dk_go 1 a_Bh_fill_127 rfl
theorem a_Bh_fill_129 : dk_at b_Bh_fill 129 t_Bh_fill_129 := dk_go 1 a_Bh_fill_128 rfl
theorem a_Bh_fill_130 : dk_at b_Bh_fill 130 t_Bh_fill_130 := dk_go 1 a_Bh_fill_129 rfl
theorem a_Bh_fill_133 : dk_at b_Bh_fill 133 t_Bh_fill_133 := dk_go 3 a_Bh_fill_130 rfl
theorem a_Bh_fill_135 : dk_at b_Bh_fill 135 t_Bh_fill_135 := dk_go 2 a_Bh_fill_133 rfl
theorem d_Bh_fill_0 : decode b_Bh_fill 0 = .ok (.aload_n 0, 1) := dk_0 a_Bh_fill_0 (dko_42 _)
theorem d_Bh_fill_1 : decode b_Bh_fill 1 = .ok (.getfield 26, 3) := dk_U2 a_Bh_fill_1 (dko_180 _) rfl
theorem d_Bh_fill_4 : decode b_Bh_fill 4 = .ok (.iload_n 1, 1) := dk_0 a_Bh_fill_4 (dko_27 _)
theorem d_Bh_fill_5 : decode b_Bh_fill 5 = .ok (.invokevirtual 196, 3) := dk_U2 a_Bh_fill_5 (dko_182 _) rfl
theorem d_Bh_fill_8 : decode b_Bh_fill 8 = .ok (.ifCond .eq 24, 3) := dk_S2 a_Bh_fill_8 (dko_153 _) (by decide +kernel)
theorem d_Bh_fill_11 : decode b_Bh_fill 11 = .ok (.iload_n 2, 1) := dk_0 a_Bh_fill_11 (dko_28 _)
theorem d_Bh_fill_12 : decode b_Bh_fill 12 = .ok (.invokestatic 200, 3) := dk_U2 a_Bh_fill_12 (dko_184 _) rfl
theorem d_Bh_fill_15 : decode b_Bh_fill 15 = .ok (.ifCond .eq 17, 3) := dk_S2 a_Bh_fill_15 (dko_153 _) (by decide +kernel)
theorem d_Bh_fill_18 : decode b_Bh_fill 18 = .ok (.lload_n 3, 1) := dk_0 a_Bh_fill_18 (dko_33 _)
theorem d_Bh_fill_19 : decode b_Bh_fill 19 = .ok (.lconst 1, 1) := dk_0 a_Bh_fill_19 (dko_10 _)
theorem d_Bh_fill_20 : decode b_Bh_fill 20 = .ok (.lcmp, 1) := dk_0 a_Bh_fill_20 (dko_148 _)
theorem d_Bh_fill_21 : decode b_Bh_fill 21 = .ok (.ifCond .lt 11, 3) := dk_S2 a_Bh_fill_21 (dko_155 _) (by decide +kernel)
theorem d_Bh_fill_24 : decode b_Bh_fill 24 = .ok (.lload_n 3, 1) := dk_0 a_Bh_fill_24 (dko_33 _)
theorem d_Bh_fill_25 : decode b_Bh_fill 25 = .ok (.ldc2_w 203, 3) := dk_U2 a_Bh_fill_25 (dko_20 _) rfl
theorem d_Bh_fill_28 : decode b_Bh_fill 28 = .ok (.lcmp, 1) := dk_0 a_Bh_fill_28 (dko_148 _)
theorem d_Bh_fill_29 : decode b_Bh_fill 29 = .ok (.ifCond .le 5, 3) := dk_S2 a_Bh_fill_29 (dko_158 _) (by decide +kernel)
theorem d_Bh_fill_32 : decode b_Bh_fill 32 = .ok (.iconst 0, 1) := dk_0 a_Bh_fill_32 (dko_3 _)
theorem d_Bh_fill_33 : decode b_Bh_fill 33 = .ok (.ireturn, 1) := dk_0 a_Bh_fill_33 (dko_172 _)
theorem d_Bh_fill_34 : decode b_Bh_fill 34 = .ok (.lload_n 3, 1) := dk_0 a_Bh_fill_34 (dko_33 _)
theorem d_Bh_fill_35 : decode b_Bh_fill 35 = .ok (.aload_n 0, 1) := dk_0 a_Bh_fill_35 (dko_42 _)
theorem d_Bh_fill_36 : decode b_Bh_fill 36 = .ok (.getfield 26, 3) := dk_U2 a_Bh_fill_36 (dko_180 _) rfl
theorem d_Bh_fill_39 : decode b_Bh_fill 39 = .ok (.getfield 151, 3) := dk_U2 a_Bh_fill_39 (dko_180 _) rfl
theorem d_Bh_fill_42 : decode b_Bh_fill 42 = .ok (.getfield 205, 3) := dk_U2 a_Bh_fill_42 (dko_180 _) rfl
theorem d_Bh_fill_45 : decode b_Bh_fill 45 = .ok (.iload_n 1, 1) := dk_0 a_Bh_fill_45 (dko_27 _)
theorem d_Bh_fill_46 : decode b_Bh_fill 46 = .ok (.iaload, 1) := dk_0 a_Bh_fill_46 (dko_46 _)
theorem d_Bh_fill_47 : decode b_Bh_fill 47 = .ok (.aload_n 0, 1) := dk_0 a_Bh_fill_47 (dko_42 _)
theorem d_Bh_fill_48 : decode b_Bh_fill 48 = .ok (.getfield 26, 3) := dk_U2 a_Bh_fill_48 (dko_180 _) rfl
theorem d_Bh_fill_51 : decode b_Bh_fill 51 = .ok (.getfield 208, 3) := dk_U2 a_Bh_fill_51 (dko_180 _) rfl
theorem d_Bh_fill_54 : decode b_Bh_fill 54 = .ok (.iload_n 1, 1) := dk_0 a_Bh_fill_54 (dko_27 _)
theorem d_Bh_fill_55 : decode b_Bh_fill 55 = .ok (.iaload, 1) := dk_0 a_Bh_fill_55 (dko_46 _)
theorem d_Bh_fill_56 : decode b_Bh_fill 56 = .ok (.isub, 1) := dk_0 a_Bh_fill_56 (dko_100 _)
theorem d_Bh_fill_57 : decode b_Bh_fill 57 = .ok (.i2l, 1) := dk_0 a_Bh_fill_57 (dko_133 _)
theorem d_Bh_fill_58 : decode b_Bh_fill 58 = .ok (.lcmp, 1) := dk_0 a_Bh_fill_58 (dko_148 _)
theorem d_Bh_fill_59 : decode b_Bh_fill 59 = .ok (.ifCond .gt 15, 3) := dk_S2 a_Bh_fill_59 (dko_157 _) (by decide +kernel)
theorem d_Bh_fill_62 : decode b_Bh_fill 62 = .ok (.aload_n 0, 1) := dk_0 a_Bh_fill_62 (dko_42 _)
theorem d_Bh_fill_63 : decode b_Bh_fill 63 = .ok (.getfield 26, 3) := dk_U2 a_Bh_fill_63 (dko_180 _) rfl
theorem d_Bh_fill_66 : decode b_Bh_fill 66 = .ok (.iload_n 1, 1) := dk_0 a_Bh_fill_66 (dko_27 _)
theorem d_Bh_fill_67 : decode b_Bh_fill 67 = .ok (.iload_n 2, 1) := dk_0 a_Bh_fill_67 (dko_28 _)
theorem d_Bh_fill_68 : decode b_Bh_fill 68 = .ok (.invokevirtual 211, 3) := dk_U2 a_Bh_fill_68 (dko_182 _) rfl
theorem d_Bh_fill_71 : decode b_Bh_fill 71 = .ok (.ifCond .ne 5, 3) := dk_S2 a_Bh_fill_71 (dko_154 _) (by decide +kernel)
theorem d_Bh_fill_74 : decode b_Bh_fill 74 = .ok (.iconst 0, 1) := dk_0 a_Bh_fill_74 (dko_3 _)
theorem d_Bh_fill_75 : decode b_Bh_fill 75 = .ok (.ireturn, 1) := dk_0 a_Bh_fill_75 (dko_172 _)
theorem d_Bh_fill_76 : decode b_Bh_fill 76 = .ok (.aload_n 0, 1) := dk_0 a_Bh_fill_76 (dko_42 _)
theorem d_Bh_fill_77 : decode b_Bh_fill 77 = .ok (.getfield 26, 3) := dk_U2 a_Bh_fill_77 (dko_180 _) rfl
theorem d_Bh_fill_80 : decode b_Bh_fill 80 = .ok (.getfield 215, 3) := dk_U2 a_Bh_fill_80 (dko_180 _) rfl
theorem d_Bh_fill_83 : decode b_Bh_fill 83 = .ok (.iload_n 1, 1) := dk_0 a_Bh_fill_83 (dko_27 _)
theorem d_Bh_fill_84 : decode b_Bh_fill 84 = .ok (.iaload, 1) := dk_0 a_Bh_fill_84 (dko_46 _)
theorem d_Bh_fill_85 : decode b_Bh_fill 85 = .ok (.istore 5, 2) := dk_U1 a_Bh_fill_85 (dko_54 _) rfl
theorem d_Bh_fill_87 : decode b_Bh_fill 87 = .ok (.aload_n 0, 1) := dk_0 a_Bh_fill_87 (dko_42 _)
theorem d_Bh_fill_88 : decode b_Bh_fill 88 = .ok (.getfield 26, 3) := dk_U2 a_Bh_fill_88 (dko_180 _) rfl
theorem d_Bh_fill_91 : decode b_Bh_fill 91 = .ok (.getfield 215, 3) := dk_U2 a_Bh_fill_91 (dko_180 _) rfl
theorem d_Bh_fill_94 : decode b_Bh_fill 94 = .ok (.iload_n 1, 1) := dk_0 a_Bh_fill_94 (dko_27 _)
theorem d_Bh_fill_95 : decode b_Bh_fill 95 = .ok (.iload_n 2, 1) := dk_0 a_Bh_fill_95 (dko_28 _)
theorem d_Bh_fill_96 : decode b_Bh_fill 96 = .ok (.iastore, 1) := dk_0 a_Bh_fill_96 (dko_79 _)
theorem d_Bh_fill_97 : decode b_Bh_fill 97 = .ok (.aload_n 0, 1) := dk_0 a_Bh_fill_97 (dko_42 _)
theorem d_Bh_fill_98 : decode b_Bh_fill 98 = .ok (.getfield 44, 3) := dk_U2 a_Bh_fill_98 (dko_180 _) rfl
theorem d_Bh_fill_101 : decode b_Bh_fill 101 = .ok (.invokevirtual 218, 3) := dk_U2 a_Bh_fill_101 (dko_182 _) rfl
theorem d_Bh_fill_104 : decode b_Bh_fill 104 = .ok (.istore 6, 2) := dk_U1 a_Bh_fill_104 (dko_54 _) rfl
theorem d_Bh_fill_106 : decode b_Bh_fill 106 = .ok (.aload_n 0, 1) := dk_0 a_Bh_fill_106 (dko_42 _)
theorem d_Bh_fill_107 : decode b_Bh_fill 107 = .ok (.getfield 26, 3) := dk_U2 a_Bh_fill_107 (dko_180 _) rfl
theorem d_Bh_fill_110 : decode b_Bh_fill 110 = .ok (.getfield 215, 3) := dk_U2 a_Bh_fill_110 (dko_180 _) rfl
theorem d_Bh_fill_113 : decode b_Bh_fill 113 = .ok (.iload_n 1, 1) := dk_0 a_Bh_fill_113 (dko_27 _)
theorem d_Bh_fill_114 : decode b_Bh_fill 114 = .ok (.iload 5, 2) := dk_U1 a_Bh_fill_114 (dko_21 _) rfl
theorem d_Bh_fill_116 : decode b_Bh_fill 116 = .ok (.iastore, 1) := dk_0 a_Bh_fill_116 (dko_79 _)
theorem d_Bh_fill_117 : decode b_Bh_fill 117 = .ok (.iload 6, 2) := dk_U1 a_Bh_fill_117 (dko_21 _) rfl
theorem d_Bh_fill_119 : decode b_Bh_fill 119 = .ok (.ifCond .eq 14, 3) := dk_S2 a_Bh_fill_119 (dko_153 _) (by decide +kernel)
theorem d_Bh_fill_122 : decode b_Bh_fill 122 = .ok (.aload_n 0, 1) := dk_0 a_Bh_fill_122 (dko_42 _)
theorem d_Bh_fill_123 : decode b_Bh_fill 123 = .ok (.getfield 26, 3) := dk_U2 a_Bh_fill_123 (dko_180 _) rfl
theorem d_Bh_fill_126 : decode b_Bh_fill 126 = .ok (.iload_n 1, 1) := dk_0 a_Bh_fill_126 (dko_27 _)
theorem d_Bh_fill_127 : decode b_Bh_fill 127 = .ok (.iload_n 2, 1) := dk_0 a_Bh_fill_127 (dko_28 _)
theorem d_Bh_fill_128 : decode b_Bh_fill 128 = .ok (.lload_n 3, 1) := dk_0 a_Bh_fill_128 (dko_33 _)
theorem d_Bh_fill_129 : decode b_Bh_fill 129 = .ok (.l2i, 1) := dk_0 a_Bh_fill_129 (dko_136 _)
theorem d_Bh_fill_130 : decode b_Bh_fill 130 = .ok (.invokevirtual 221, 3) := dk_U2 a_Bh_fill_130 (dko_182 _) rfl
theorem d_Bh_fill_133 : decode b_Bh_fill 133 = .ok (.iload 6, 2) := dk_U1 a_Bh_fill_133 (dko_21 _) rfl
theorem d_Bh_fill_135 : decode b_Bh_fill 135 = .ok (.ireturn, 1) := dk_0 a_Bh_fill_135 (dko_172 _)
set_option maxHeartbeats 4000000 in
set_option maxRecDepth 100000 in
theorem ok_Bh_fill (pc : Nat) : OpS mt mi_Bh_fill pc (cs_Bh_fill pc) := (os_n (os_n (os_n (os_n (os_n (os_n (os_l (so_aload_n d_Bh_fill_0 rfl)) (os_l (so_get (C := R_Bh) (T := F_Bh) (N := 16) (j := 2) in_Bh rfl (by decide) mw_686 d_Bh_fill_1))) (os_n (os_l (so_iload_n d_Bh_fill_4 rfl)) (os_l (so_callV (iv := mi_St_isTank) rfl rfl rfl mw_1075 mw_1076 mw_1077 mw_4 mw_1078 ⟨by decide +kernel, by decide +kernel, by decide +kernel⟩ (by decide) d_Bh_fill_5)))) (os_n (os_n (os_l (so_ifeq d_Bh_fill_8 (by decide))) (os_l (so_iload_n d_Bh_fill_11 rfl))) (os_n (os_l (so_callS (iv := mi_Bh_isLiquid) rfl mw_1079 mw_1080 mw_1 mw_1081 ⟨by decide +kernel, by decide +kernel, by decide +kernel⟩ (by decide) d_Bh_fill_12)) (os_n (os_l (so_ifeq d_Bh_fill_15 (by decide))) (os_l (so_lload_n d_Bh_fill_18 rfl)))))) (os_n (os_n (os_n (os_l (so_lconst d_Bh_fill_19 (by decide))) (os_l (so_lcmp d_Bh_fill_20))) (os_n (os_l (so_iflt d_Bh_fill_21 (by decide))) (os_l (so_lload_n d_Bh_fill_24 rfl)))) (os_n (os_n (os_l (so_ldc2 mw_1082 d_Bh_fill_25)) (os_l (so_lcmp d_Bh_fill_28))) (os_n (os_l (so_ifle d_Bh_fill_29 (by decide))) (os_n (os_l (so_iconst d_Bh_fill_32 (by decide))) (os_l (so_zreturn rfl d_Bh_fill_33))))))) (os_n (os_n (os_n (os_n (os_l (so_lload_n d_Bh_fill_34 rfl)) (os_l (so_aload_n d_Bh_fill_35 rfl))) (os_n (os_l (so_get (C := R_Bh) (T := F_Bh) (N := 16) (j := 2) in_Bh rfl (by decide) mw_686 d_Bh_fill_36)) (os_l (so_get (C := R_St) (T := F_St) (N := 12) (j := 0) in_St rfl (by decide) mw_151 d_Bh_fill_39)))) (os_n (os_n (os_l (so_get (C := R_Pl) (T := F_Pl) (N := 12) (j := 3) in_Pl rfl (by decide) mw_101 d_Bh_fill_42)) (os_l (so_iload_n d_Bh_fill_45 rfl))) (os_n (os_l (so_iaload d_Bh_fill_46)) (os_n (os_l (so_aload_n d_Bh_fill_47 rfl)) (os_l (so_get (C := R_Bh) (T := F_Bh) (N := 16) (j := 2) in_Bh rfl (by decide) mw_686 d_Bh_fill_48)))))) (os_n (os_n (os_n (os_l (so_get (C := R_St) (T := F_St) (N := 12) (j := 4) in_St rfl (by decide) mw_168 d_Bh_fill_51)) (os_l (so_iload_n d_Bh_fill_54 rfl))) (os_n (os_l (so_iaload d_Bh_fill_55)) (os_n (os_l (so_isub d_Bh_fill_56)) (os_l (so_i2l d_Bh_fill_57))))) (os_n (os_n (os_l (so_lcmp d_Bh_fill_58)) (os_l (so_ifgt d_Bh_fill_59 (by decide)))) (os_n (os_l (so_aload_n d_Bh_fill_62 rfl)) (os_n (os_l (so_get (C := R_Bh) (T := F_Bh) (N := 16) (j := 2) in_Bh rfl (by decide) mw_686 d_Bh_fill_63)) (os_l (so_iload_n d_Bh_fill_66 rfl)))))))) (os_n (os_n (os_n (os_n (os_n (os_l (so_iload_n d_Bh_fill_67 rfl)) (os_l (so_callV (iv := mi_St_mayCome) rfl rfl rfl mw_1083 mw_1084 mw_1085 mw_4 mw_1086 ⟨by decide +kernel, by decide +kernel, by decide +kernel⟩ (by decide) d_Bh_fill_68))) (os_n (os_l (so_ifne d_Bh_fill_71 (by decide))) (os_l (so_iconst d_Bh_fill_74 (by decide))))) (os_n (os_n (os_l (so_zreturn rfl d_Bh_fill_75)) (os_l (so_aload_n d_Bh_fill_76 rfl))) (os_n (os_l (so_get (C := R_Bh) (T := F_Bh) (N := 16) (j := 2) in_Bh rfl (by decide) mw_686 d_Bh_fill_77)) (os_n (os_l (so_get (C := R_St) (T := F_St) (N := 12) (j := 3) in_St rfl (by decide) mw_165 d_Bh_fill_80)) (os_l (so_iload_n d_Bh_fill_83 rfl)))))) (os_n (os_n (os_n (os_l (so_iaload d_Bh_fill_84)) (os_l (so_istore d_Bh_fill_85 (by decide)))) (os_n (os_l (so_aload_n d_Bh_fill_87 rfl)) (os_n (os_l (so_get (C := R_Bh) (T := F_Bh) (N := 16) (j := 2) in_Bh rfl (by decide) mw_686 d_Bh_fill_88)) (os_l (so_get (C := R_St) (T := F_St) (N := 12) (j := 3) in_St rfl (by decide) mw_165 d_Bh_fill_91))))) (os_n (os_n (os_l (so_iload_n d_Bh_fill_94 rfl)) (os_l (so_iload_n d_Bh_fill_95 rfl))) (os_n (os_l (so_iastore d_Bh_fill_96)) (os_n (os_l (so_aload_n d_Bh_fill_97 rfl)) (os_l (so_get (C := R_Bh) (T := F_Bh) (N := 16) (j := 4) in_Bh rfl (by decide) mw_688 d_Bh_fill_98))))))) (os_n (os_n (os_n (os_n (os_l (so_callV (iv := mi_Sf_isSafe) rfl rfl rfl mw_1092 mw_1093 mw_1094 mw_8 mw_1095 ⟨by decide +kernel, by decide +kernel, by decide +kernel⟩ (by decide) d_Bh_fill_101)) (os_l (so_istore d_Bh_fill_104 (by decide)))) (os_n (os_l (so_aload_n d_Bh_fill_106 rfl)) (os_l (so_get (C := R_Bh) (T := F_Bh) (N := 16) (j := 2) in_Bh rfl (by decide) mw_686 d_Bh_fill_107)))) (os_n (os_n (os_l (so_get (C := R_St) (T := F_St) (N := 12) (j := 3) in_St rfl (by decide) mw_165 d_Bh_fill_110)) (os_l (so_iload_n d_Bh_fill_113 rfl))) (os_n (os_l (so_iload d_Bh_fill_114)) (os_n (os_l (so_iastore d_Bh_fill_116)) (os_l (so_iload d_Bh_fill_117)))))) (os_n (os_n (os_n (os_l (so_ifeq d_Bh_fill_119 (by decide))) (os_l (so_aload_n d_Bh_fill_122 rfl))) (os_n (os_l (so_get (C := R_Bh) (T := F_Bh) (N := 16) (j := 2) in_Bh rfl (by decide) mw_686 d_Bh_fill_123)) (os_n (os_l (so_iload_n d_Bh_fill_126 rfl)) (os_l (so_iload_n d_Bh_fill_127 rfl))))) (os_n (os_n (os_l (so_lload_n d_Bh_fill_128 rfl)) (os_l (so_l2i d_Bh_fill_129))) (os_n (os_l (so_callV (iv := mi_St_arrive) rfl rfl rfl mw_1129 mw_1130 mw_1131 mw_4 mw_1132 ⟨by decide +kernel, by decide +kernel, by decide +kernel⟩ (by decide) d_Bh_fill_130)) (os_n (os_l (so_iload d_Bh_fill_133)) (os_l (so_zreturn rfl d_Bh_fill_135)))))))))
abbrev t_Bh_isLiquid_16 : List UInt8 := 172 :: []
abbrev t_Bh_isLiquid_15 : List UInt8 := 3 :: t_Bh_isLiquid_16
abbrev t_Bh_isLiquid_12 : List UInt8 := 167 :: 0 :: 4 :: t_Bh_isLiquid_15
abbrev t_Bh_isLiquid_11 : List UInt8 := 4 :: t_Bh_isLiquid_12
abbrev t_Bh_isLiquid_8 : List UInt8 := 163 :: 0 :: 7 :: t_Bh_isLiquid_11
abbrev t_Bh_isLiquid_6 : List UInt8 := 16 :: 14 :: t_Bh_isLiquid_8
abbrev t_Bh_isLiquid_5 : List UInt8 := 26 :: t_Bh_isLiquid_6
abbrev t_Bh_isLiquid_2 : List UInt8 := 161 :: 0 :: 13 :: t_Bh_isLiquid_5
abbrev t_Bh_isLiquid_1 : List UInt8 := 4 :: t_Bh_isLiquid_2
abbrev t_Bh_isLiquid_0 : List UInt8 := 26 :: t_Bh_isLiquid_1
theorem a_Bh_isLiquid_0 : dk_at b_Bh_isLiquid 0 t_Bh_isLiquid_0 := dk_start (by decide +kernel)
theorem a_Bh_isLiquid_1 : dk_at b_Bh_isLiquid 1 t_Bh_isLiquid_1 := dk_go 1 a_Bh_isLiquid_0 rfl
theorem a_Bh_isLiquid_2 : dk_at b_Bh_isLiquid 2 t_Bh_isLiquid_2 := dk_go 1 a_Bh_isLiquid_1 rfl
theorem a_Bh_isLiquid_5 : dk_at b_Bh_isLiquid 5 t_Bh_isLiquid_5 := dk_go 3 a_Bh_isLiquid_2 rfl
theorem a_Bh_isLiquid_6 : dk_at b_Bh_isLiquid 6 t_Bh_isLiquid_6 := dk_go 1 a_Bh_isLiquid_5 rfl
theorem a_Bh_isLiquid_8 : dk_at b_Bh_isLiquid 8 t_Bh_isLiquid_8 := dk_go 2 a_Bh_isLiquid_6 rfl
theorem a_Bh_isLiquid_11 : dk_at b_Bh_isLiquid 11 t_Bh_isLiquid_11 := dk_go 3 a_Bh_isLiquid_8 rfl
theorem a_Bh_isLiquid_12 : dk_at b_Bh_isLiquid 12 t_Bh_isLiquid_12 := dk_go 1 a_Bh_isLiquid_11 rfl
theorem a_Bh_isLiquid_15 : dk_at b_Bh_isLiquid 15 t_Bh_isLiquid_15 := dk_go 3 a_Bh_isLiquid_12 rfl
theorem a_Bh_isLiquid_16 : dk_at b_Bh_isLiquid 16 t_Bh_isLiquid_16 := dk_go 1 a_Bh_isLiquid_15 rfl
theorem d_Bh_isLiquid_0 : decode b_Bh_isLiquid 0 = .ok (.iload_n 0, 1) := dk_0 a_Bh_isLiquid_0 (dko_26 _)
theorem d_Bh_isLiquid_1 : decode b_Bh_isLiquid 1 = .ok (.iconst 1, 1) := dk_0 a_Bh_isLiquid_1 (dko_4 _)
theorem d_Bh_isLiquid_2 : decode b_Bh_isLiquid 2 = .ok (.if_icmp .lt 13, 3) := dk_S2 a_Bh_isLiquid_2 (dko_161 _) (by decide +kernel)
theorem d_Bh_isLiquid_5 : decode b_Bh_isLiquid 5 = .ok (.iload_n 0, 1) := dk_0 a_Bh_isLiquid_5 (dko_26 _)
theorem d_Bh_isLiquid_6 : decode b_Bh_isLiquid 6 = .ok (.bipush 14, 2) := dk_S1 a_Bh_isLiquid_6 (dko_16 _) (by decide +kernel)
theorem d_Bh_isLiquid_8 : decode b_Bh_isLiquid 8 = .ok (.if_icmp .gt 7, 3) := dk_S2 a_Bh_isLiquid_8 (dko_163 _) (by decide +kernel)
theorem d_Bh_isLiquid_11 : decode b_Bh_isLiquid 11 = .ok (.iconst 1, 1) := dk_0 a_Bh_isLiquid_11 (dko_4 _)
theorem d_Bh_isLiquid_12 : decode b_Bh_isLiquid 12 = .ok (.goto 4, 3) := dk_S2 a_Bh_isLiquid_12 (dko_167 _) (by decide +kernel)
theorem d_Bh_isLiquid_15 : decode b_Bh_isLiquid 15 = .ok (.iconst 0, 1) := dk_0 a_Bh_isLiquid_15 (dko_3 _)
theorem d_Bh_isLiquid_16 : decode b_Bh_isLiquid 16 = .ok (.ireturn, 1) := dk_0 a_Bh_isLiquid_16 (dko_172 _)
set_option maxHeartbeats 4000000 in
set_option maxRecDepth 100000 in
theorem ok_Bh_isLiquid (pc : Nat) : OpS mt mi_Bh_isLiquid pc (cs_Bh_isLiquid pc) := (os_n (os_n (os_n (os_l (so_iload_n d_Bh_isLiquid_0 rfl)) (os_l (so_iconst d_Bh_isLiquid_1 (by decide)))) (os_n (os_l (so_iclt d_Bh_isLiquid_2 (by decide))) (os_n (os_l (so_iload_n d_Bh_isLiquid_5 rfl)) (os_l (so_bipush d_Bh_isLiquid_6 (by decide)))))) (os_n (os_n (os_l (so_icgt d_Bh_isLiquid_8 (by decide))) (os_l (so_iconst d_Bh_isLiquid_11 (by decide)))) (os_n (os_l (so_goto d_Bh_isLiquid_12 (by decide))) (os_n (os_l (so_iconst d_Bh_isLiquid_15 (by decide))) (os_l (so_zreturn rfl d_Bh_isLiquid_16))))))
abbrev t_Bh_may_64 : List UInt8 := 172 :: []
abbrev t_Bh_may_63 : List UInt8 := 4 :: t_Bh_may_64
abbrev t_Bh_may_62 : List UInt8 := 79 :: t_Bh_may_63
abbrev t_Bh_may_61 : List UInt8 := 128 :: t_Bh_may_62
abbrev t_Bh_may_60 : List UInt8 := 120 :: t_Bh_may_61
abbrev t_Bh_may_59 : List UInt8 := 27 :: t_Bh_may_60
abbrev t_Bh_may_58 : List UInt8 := 4 :: t_Bh_may_59
abbrev t_Bh_may_57 : List UInt8 := 46 :: t_Bh_may_58
abbrev t_Bh_may_56 : List UInt8 := 92 :: t_Bh_may_57
abbrev t_Bh_may_55 : List UInt8 := 28 :: t_Bh_may_56
abbrev t_Bh_may_52 : List UInt8 := 180 :: 0 :: 228 :: t_Bh_may_55
abbrev t_Bh_may_49 : List UInt8 := 180 :: 0 :: 26 :: t_Bh_may_52
abbrev t_Bh_may_48 : List UInt8 := 42 :: t_Bh_may_49
abbrev t_Bh_may_47 : List UInt8 := 79 :: t_Bh_may_48
abbrev t_Bh_may_46 : List UInt8 := 128 :: t_Bh_may_47
abbrev t_Bh_may_45 : List UInt8 := 120 :: t_Bh_may_46
abbrev t_Bh_may_44 : List UInt8 := 28 :: t_Bh_may_45
abbrev t_Bh_may_43 : List UInt8 := 4 :: t_Bh_may_44
abbrev t_Bh_may_42 : List UInt8 := 46 :: t_Bh_may_43
abbrev t_Bh_may_41 : List UInt8 := 92 :: t_Bh_may_42
abbrev t_Bh_may_40 : List UInt8 := 27 :: t_Bh_may_41
abbrev t_Bh_may_37 : List UInt8 := 180 :: 0 :: 228 :: t_Bh_may_40
abbrev t_Bh_may_34 : List UInt8 := 180 :: 0 :: 26 :: t_Bh_may_37
abbrev t_Bh_may_33 : List UInt8 := 42 :: t_Bh_may_34
abbrev t_Bh_may_32 : List UInt8 := 172 :: t_Bh_may_33
abbrev t_Bh_may_31 : List UInt8 := 3 :: t_Bh_may_32
abbrev t_Bh_may_28 : List UInt8 := 153 :: 0 :: 5 :: t_Bh_may_31
abbrev t_Bh_may_25 : List UInt8 := 182 :: 0 :: 225 :: t_Bh_may_28
abbrev t_Bh_may_24 : List UInt8 := 28 :: t_Bh_may_25
abbrev t_Bh_may_23 : List UInt8 := 27 :: t_Bh_may_24
abbrev t_Bh_may_20 : List UInt8 := 180 :: 0 :: 26 :: t_Bh_may_23
abbrev t_Bh_may_19 : List UInt8 := 42 :: t_Bh_may_20
abbrev t_Bh_may_16 : List UInt8 := 159 :: 0 :: 15 :: t_Bh_may_19
abbrev t_Bh_may_15 : List UInt8 := 28 :: t_Bh_may_16
abbrev t_Bh_may_14 : List UInt8 := 27 :: t_Bh_may_15
abbrev t_Bh_may_11 : List UInt8 := 153 :: 0 :: 20 :: t_Bh_may_14
abbrev t_Bh_may_8 : List UInt8 := 184 :: 0 :: 200 :: t_Bh_may_11
abbrev t_Bh_may_7 : List UInt8 := 28 :: t_Bh_may_8
abbrev t_Bh_may_4 : List UInt8 := 153 :: 0 :: 27 :: t_Bh_may_7
abbrev t_Bh_may_1 : List UInt8 := 184 :: 0 :: 200 :: t_Bh_may_4
abbrev t_Bh_may_0 : List UInt8 := 27 :: t_Bh_may_1
theorem a_Bh_may_0 : dk_at b_Bh_may 0 t_Bh_may_0 := dk_start (by decide +kernel)
theorem a_Bh_may_1 : dk_at b_Bh_may 1 t_Bh_may_1 := dk_go 1 a_Bh_may_0 rfl
theorem a_Bh_may_4 : dk_at b_Bh_may 4 t_Bh_may_4 := dk_go 3 a_Bh_may_1 rfl
theorem a_Bh_may_7 : dk_at b_Bh_may 7 t_Bh_may_7 := dk_go 3 a_Bh_may_4 rfl
theorem a_Bh_may_8 : dk_at b_Bh_may 8 t_Bh_may_8 := dk_go 1 a_Bh_may_7 rfl
theorem a_Bh_may_11 : dk_at b_Bh_may 11 t_Bh_may_11 := dk_go 3 a_Bh_may_8 rfl
theorem a_Bh_may_14 : dk_at b_Bh_may 14 t_Bh_may_14 := dk_go 3 a_Bh_may_11 rfl
theorem a_Bh_may_15 : dk_at b_Bh_may 15 t_Bh_may_15 := dk_go 1 a_Bh_may_14 rfl
theorem a_Bh_may_16 : dk_at b_Bh_may 16 t_Bh_may_16 := dk_go 1 a_Bh_may_15 rfl
theorem a_Bh_may_19 : dk_at b_Bh_may 19 t_Bh_may_19 := dk_go 3 a_Bh_may_16 rfl
theorem a_Bh_may_20 : dk_at b_Bh_may 20 t_Bh_may_20 := dk_go 1 a_Bh_may_19 rfl
theorem a_Bh_may_23 : dk_at b_Bh_may 23 t_Bh_may_23 := dk_go 3 a_Bh_may_20 rfl
theorem a_Bh_may_24 : dk_at b_Bh_may 24 t_Bh_may_24 := dk_go 1 a_Bh_may_23 rfl
theorem a_Bh_may_25 : dk_at b_Bh_may 25 t_Bh_may_25 := dk_go 1 a_Bh_may_24 rfl
theorem a_Bh_may_28 : dk_at b_Bh_may 28 t_Bh_may_28 := dk_go 3 a_Bh_may_25 rfl
theorem a_Bh_may_31 : dk_at b_Bh_may 31 t_Bh_may_31 := dk_go 3 a_Bh_may_28 rfl
theorem a_Bh_may_32 : dk_at b_Bh_may 32 t_Bh_may_32 := dk_go 1 a_Bh_may_31 rfl
theorem a_Bh_may_33 : dk_at b_Bh_may 33 t_Bh_may_33 := dk_go 1 a_Bh_may_32 rfl
theorem a_Bh_may_34 : dk_at b_Bh_may 34 t_Bh_may_34 := dk_go 1 a_Bh_may_33 rfl
theorem a_Bh_may_37 : dk_at b_Bh_may 37 t_Bh_may_37 := dk_go 3 a_Bh_may_34 rfl
theorem a_Bh_may_40 : dk_at b_Bh_may 40 t_Bh_may_40 := dk_go 3 a_Bh_may_37 rfl
theorem a_Bh_may_41 : dk_at b_Bh_may 41 t_Bh_may_41 := dk_go 1 a_Bh_may_40 rfl
theorem a_Bh_may_42 : dk_at b_Bh_may 42 t_Bh_may_42 := dk_go 1 a_Bh_may_41 rfl
theorem a_Bh_may_43 : dk_at b_Bh_may 43 t_Bh_may_43 := dk_go 1 a_Bh_may_42 rfl
theorem a_Bh_may_44 : dk_at b_Bh_may 44 t_Bh_may_44 := dk_go 1 a_Bh_may_43 rfl
theorem a_Bh_may_45 : dk_at b_Bh_may 45 t_Bh_may_45 := dk_go 1 a_Bh_may_44 rfl
theorem a_Bh_may_46 : dk_at b_Bh_may 46 t_Bh_may_46 := dk_go 1 a_Bh_may_45 rfl
theorem a_Bh_may_47 : dk_at b_Bh_may 47 t_Bh_may_47 := dk_go 1 a_Bh_may_46 rfl
theorem a_Bh_may_48 : dk_at b_Bh_may 48 t_Bh_may_48 := dk_go 1 a_Bh_may_47 rfl
theorem a_Bh_may_49 : dk_at b_Bh_may 49 t_Bh_may_49 := dk_go 1 a_Bh_may_48 rfl
theorem a_Bh_may_52 : dk_at b_Bh_may 52 t_Bh_may_52 := dk_go 3 a_Bh_may_49 rfl
theorem a_Bh_may_55 : dk_at b_Bh_may 55 t_Bh_may_55 := dk_go 3 a_Bh_may_52 rfl
theorem a_Bh_may_56 : dk_at b_Bh_may 56 t_Bh_may_56 := dk_go 1 a_Bh_may_55 rfl
theorem a_Bh_may_57 : dk_at b_Bh_may 57 t_Bh_may_57 := dk_go 1 a_Bh_may_56 rfl
theorem a_Bh_may_58 : dk_at b_Bh_may 58 t_Bh_may_58 := dk_go 1 a_Bh_may_57 rfl
theorem a_Bh_may_59 : dk_at b_Bh_may 59 t_Bh_may_59 := dk_go 1 a_Bh_may_58 rfl
theorem a_Bh_may_60 : dk_at b_Bh_may 60 t_Bh_may_60 := dk_go 1 a_Bh_may_59 rfl
theorem a_Bh_may_61 : dk_at b_Bh_may 61 t_Bh_may_61 := dk_go 1 a_Bh_may_60 rfl
theorem a_Bh_may_62 : dk_at b_Bh_may 62 t_Bh_may_62 := dk_go 1 a_Bh_may_61 rfl
theorem a_Bh_may_63 : dk_at b_Bh_may 63 t_Bh_may_63 := dk_go 1 a_Bh_may_62 rfl
theorem a_Bh_may_64 : dk_at b_Bh_may 64 t_Bh_may_64 := dk_go 1 a_Bh_may_63 rfl
theorem d_Bh_may_0 : decode b_Bh_may 0 = .ok (.iload_n 1, 1) := dk_0 a_Bh_may_0 (dko_27 _)
theorem d_Bh_may_1 : decode b_Bh_may 1 = .ok (.invokestatic 200, 3) := dk_U2 a_Bh_may_1 (dko_184 _) rfl
theorem d_Bh_may_4 : decode b_Bh_may 4 = .ok (.ifCond .eq 27, 3) := dk_S2 a_Bh_may_4 (dko_153 _) (by decide +kernel)
theorem d_Bh_may_7 : decode b_Bh_may 7 = .ok (.iload_n 2, 1) := dk_0 a_Bh_may_7 (dko_28 _)
theorem d_Bh_may_8 : decode b_Bh_may 8 = .ok (.invokestatic 200, 3) := dk_U2 a_Bh_may_8 (dko_184 _) rfl
theorem d_Bh_may_11 : decode b_Bh_may 11 = .ok (.ifCond .eq 20, 3) := dk_S2 a_Bh_may_11 (dko_153 _) (by decide +kernel)
theorem d_Bh_may_14 : decode b_Bh_may 14 = .ok (.iload_n 1, 1) := dk_0 a_Bh_may_14 (dko_27 _)
theorem d_Bh_may_15 : decode b_Bh_may 15 = .ok (.iload_n 2, 1) := dk_0 a_Bh_may_15 (dko_28 _)
theorem d_Bh_may_16 : decode b_Bh_may 16 = .ok (.if_icmp .eq 15, 3) := dk_S2 a_Bh_may_16 (dko_159 _) (by decide +kernel)
theorem d_Bh_may_19 : decode b_Bh_may 19 = .ok (.aload_n 0, 1) := dk_0 a_Bh_may_19 (dko_42 _)
theorem d_Bh_may_20 : decode b_Bh_may 20 = .ok (.getfield 26, 3) := dk_U2 a_Bh_may_20 (dko_180 _) rfl
theorem d_Bh_may_23 : decode b_Bh_may 23 = .ok (.iload_n 1, 1) := dk_0 a_Bh_may_23 (dko_27 _)
theorem d_Bh_may_24 : decode b_Bh_may 24 = .ok (.iload_n 2, 1) := dk_0 a_Bh_may_24 (dko_28 _)
theorem d_Bh_may_25 : decode b_Bh_may 25 = .ok (.invokevirtual 225, 3) := dk_U2 a_Bh_may_25 (dko_182 _) rfl
theorem d_Bh_may_28 : decode b_Bh_may 28 = .ok (.ifCond .eq 5, 3) := dk_S2 a_Bh_may_28 (dko_153 _) (by decide +kernel)
theorem d_Bh_may_31 : decode b_Bh_may 31 = .ok (.iconst 0, 1) := dk_0 a_Bh_may_31 (dko_3 _)
theorem d_Bh_may_32 : decode b_Bh_may 32 = .ok (.ireturn, 1) := dk_0 a_Bh_may_32 (dko_172 _)
theorem d_Bh_may_33 : decode b_Bh_may 33 = .ok (.aload_n 0, 1) := dk_0 a_Bh_may_33 (dko_42 _)
theorem d_Bh_may_34 : decode b_Bh_may 34 = .ok (.getfield 26, 3) := dk_U2 a_Bh_may_34 (dko_180 _) rfl
theorem d_Bh_may_37 : decode b_Bh_may 37 = .ok (.getfield 228, 3) := dk_U2 a_Bh_may_37 (dko_180 _) rfl
theorem d_Bh_may_40 : decode b_Bh_may 40 = .ok (.iload_n 1, 1) := dk_0 a_Bh_may_40 (dko_27 _)
theorem d_Bh_may_41 : decode b_Bh_may 41 = .ok (.dup2, 1) := dk_0 a_Bh_may_41 (dko_92 _)
theorem d_Bh_may_42 : decode b_Bh_may 42 = .ok (.iaload, 1) := dk_0 a_Bh_may_42 (dko_46 _)
theorem d_Bh_may_43 : decode b_Bh_may 43 = .ok (.iconst 1, 1) := dk_0 a_Bh_may_43 (dko_4 _)
theorem d_Bh_may_44 : decode b_Bh_may 44 = .ok (.iload_n 2, 1) := dk_0 a_Bh_may_44 (dko_28 _)
theorem d_Bh_may_45 : decode b_Bh_may 45 = .ok (.ishl, 1) := dk_0 a_Bh_may_45 (dko_120 _)
theorem d_Bh_may_46 : decode b_Bh_may 46 = .ok (.ior, 1) := dk_0 a_Bh_may_46 (dko_128 _)
theorem d_Bh_may_47 : decode b_Bh_may 47 = .ok (.iastore, 1) := dk_0 a_Bh_may_47 (dko_79 _)
theorem d_Bh_may_48 : decode b_Bh_may 48 = .ok (.aload_n 0, 1) := dk_0 a_Bh_may_48 (dko_42 _)
theorem d_Bh_may_49 : decode b_Bh_may 49 = .ok (.getfield 26, 3) := dk_U2 a_Bh_may_49 (dko_180 _) rfl
theorem d_Bh_may_52 : decode b_Bh_may 52 = .ok (.getfield 228, 3) := dk_U2 a_Bh_may_52 (dko_180 _) rfl
theorem d_Bh_may_55 : decode b_Bh_may 55 = .ok (.iload_n 2, 1) := dk_0 a_Bh_may_55 (dko_28 _)
theorem d_Bh_may_56 : decode b_Bh_may 56 = .ok (.dup2, 1) := dk_0 a_Bh_may_56 (dko_92 _)
theorem d_Bh_may_57 : decode b_Bh_may 57 = .ok (.iaload, 1) := dk_0 a_Bh_may_57 (dko_46 _)
theorem d_Bh_may_58 : decode b_Bh_may 58 = .ok (.iconst 1, 1) := dk_0 a_Bh_may_58 (dko_4 _)
theorem d_Bh_may_59 : decode b_Bh_may 59 = .ok (.iload_n 1, 1) := dk_0 a_Bh_may_59 (dko_27 _)
theorem d_Bh_may_60 : decode b_Bh_may 60 = .ok (.ishl, 1) := dk_0 a_Bh_may_60 (dko_120 _)
theorem d_Bh_may_61 : decode b_Bh_may 61 = .ok (.ior, 1) := dk_0 a_Bh_may_61 (dko_128 _)
theorem d_Bh_may_62 : decode b_Bh_may 62 = .ok (.iastore, 1) := dk_0 a_Bh_may_62 (dko_79 _)
theorem d_Bh_may_63 : decode b_Bh_may 63 = .ok (.iconst 1, 1) := dk_0 a_Bh_may_63 (dko_4 _)
theorem d_Bh_may_64 : decode b_Bh_may 64 = .ok (.ireturn, 1) := dk_0 a_Bh_may_64 (dko_172 _)
set_option maxHeartbeats 4000000 in
set_option maxRecDepth 100000 in
theorem ok_Bh_may (pc : Nat) : OpS mt mi_Bh_may pc (cs_Bh_may pc) := (os_n (os_n (os_n (os_n (os_n (os_l (so_iload_n d_Bh_may_0 rfl)) (os_l (so_callS (iv := mi_Bh_isLiquid) rfl mw_1079 mw_1080 mw_1 mw_1081 ⟨by decide +kernel, by decide +kernel, by decide +kernel⟩ (by decide) d_Bh_may_1))) (os_n (os_l (so_ifeq d_Bh_may_4 (by decide))) (os_n (os_l (so_iload_n d_Bh_may_7 rfl)) (os_l (so_callS (iv := mi_Bh_isLiquid) rfl mw_1079 mw_1080 mw_1 mw_1081 ⟨by decide +kernel, by decide +kernel, by decide +kernel⟩ (by decide) d_Bh_may_8))))) (os_n (os_n (os_l (so_ifeq d_Bh_may_11 (by decide))) (os_l (so_iload_n d_Bh_may_14 rfl))) (os_n (os_l (so_iload_n d_Bh_may_15 rfl)) (os_n (os_l (so_iceq d_Bh_may_16 (by decide))) (os_l (so_aload_n d_Bh_may_19 rfl)))))) (os_n (os_n (os_n (os_l (so_get (C := R_Bh) (T := F_Bh) (N := 16) (j := 2) in_Bh rfl (by decide) mw_686 d_Bh_may_20)) (os_l (so_iload_n d_Bh_may_23 rfl))) (os_n (os_l (so_iload_n d_Bh_may_24 rfl)) (os_n (os_l (so_callV (iv := mi_St_mayMeet) rfl rfl rfl mw_1141 mw_1142 mw_1143 mw_4 mw_1144 ⟨by decide +kernel, by decide +kernel, by decide +kernel⟩ (by decide) d_Bh_may_25)) (os_l (so_ifeq d_Bh_may_28 (by decide)))))) (os_n (os_n (os_l (so_iconst d_Bh_may_31 (by decide))) (os_l (so_zreturn rfl d_Bh_may_32))) (os_n (os_l (so_aload_n d_Bh_may_33 rfl)) (os_n (os_l (so_get (C := R_Bh) (T := F_Bh) (N := 16) (j := 2) in_Bh rfl (by decide) mw_686 d_Bh_may_34)) (os_l (so_get (C := R_St) (T := F_St) (N := 12) (j := 9) in_St rfl (by decide) mw_178 d_Bh_may_37))))))) (os_n (os_n (os_n (os_n (os_l (so_iload_n d_Bh_may_40 rfl)) (os_l (so_dup2 d_Bh_may_41))) (os_n (os_l (so_iaload d_Bh_may_42)) (os_n (os_l (so_iconst d_Bh_may_43 (by decide))) (os_l (so_iload_n d_Bh_may_44 rfl))))) (os_n (os_n (os_l (so_ishl d_Bh_may_45)) (os_l (so_ior d_Bh_may_46))) (os_n (os_l (so_iastore d_Bh_may_47)) (os_n (os_l (so_aload_n d_Bh_may_48 rfl)) (os_l (so_get (C := R_Bh) (T := F_Bh) (N := 16) (j := 2) in_Bh rfl (by decide) mw_686 d_Bh_may_49)))))) (os_n (os_n (os_n (os_l (so_get (C := R_St) (T := F_St) (N := 12) (j := 9) in_St rfl (by decide) mw_178 d_Bh_may_52)) (os_l (so_iload_n d_Bh_may_55 rfl))) (os_n (os_l (so_dup2 d_Bh_may_56)) (os_n (os_l (so_iaload d_Bh_may_57)) (os_l (so_iconst d_Bh_may_58 (by decide)))))) (os_n (os_n (os_l (so_iload_n d_Bh_may_59 rfl)) (os_n (os_l (so_ishl d_Bh_may_60)) (os_l (so_ior d_Bh_may_61)))) (os_n (os_l (so_iastore d_Bh_may_62)) (os_n (os_l (so_iconst d_Bh_may_63 (by decide))) (os_l (so_zreturn rfl d_Bh_may_64))))))))
abbrev t_Bh_need_41 : List UInt8 := 172 :: []
abbrev t_Bh_need_40 : List UInt8 := 4 :: t_Bh_need_41
abbrev t_Bh_need_39 : List UInt8 := 79 :: t_Bh_need_40
abbrev t_Bh_need_38 : List UInt8 := 29 :: t_Bh_need_39
abbrev t_Bh_need_37 : List UInt8 := 96 :: t_Bh_need_38
abbrev t_Bh_need_36 : List UInt8 := 28 :: t_Bh_need_37
abbrev t_Bh_need_35 : List UInt8 := 104 :: t_Bh_need_36
abbrev t_Bh_need_33 : List UInt8 := 16 :: 15 :: t_Bh_need_35
abbrev t_Bh_need_32 : List UInt8 := 27 :: t_Bh_need_33
abbrev t_Bh_need_29 : List UInt8 := 180 :: 0 :: 231 :: t_Bh_need_32
abbrev t_Bh_need_26 : List UInt8 := 180 :: 0 :: 26 :: t_Bh_need_29
abbrev t_Bh_need_25 : List UInt8 := 42 :: t_Bh_need_26
abbrev t_Bh_need_24 : List UInt8 := 172 :: t_Bh_need_25
abbrev t_Bh_need_23 : List UInt8 := 3 :: t_Bh_need_24
abbrev t_Bh_need_20 : List UInt8 := 164 :: 0 :: 5 :: t_Bh_need_23
abbrev t_Bh_need_19 : List UInt8 := 8 :: t_Bh_need_20
abbrev t_Bh_need_18 : List UInt8 := 29 :: t_Bh_need_19
abbrev t_Bh_need_15 : List UInt8 := 155 :: 0 :: 8 :: t_Bh_need_18
abbrev t_Bh_need_14 : List UInt8 := 29 :: t_Bh_need_15
abbrev t_Bh_need_11 : List UInt8 := 153 :: 0 :: 12 :: t_Bh_need_14
abbrev t_Bh_need_8 : List UInt8 := 184 :: 0 :: 200 :: t_Bh_need_11
abbrev t_Bh_need_7 : List UInt8 := 28 :: t_Bh_need_8
abbrev t_Bh_need_4 : List UInt8 := 153 :: 0 :: 19 :: t_Bh_need_7
abbrev t_Bh_need_1 : List UInt8 := 184 :: 0 :: 200 :: t_Bh_need_4
abbrev t_Bh_need_0 : List UInt8 := 27 :: t_Bh_need_1
theorem a_Bh_need_0 : dk_at b_Bh_need 0 t_Bh_need_0 := dk_start (by decide +kernel)
theorem a_Bh_need_1 : dk_at b_Bh_need 1 t_Bh_need_1 := dk_go 1 a_Bh_need_0 rfl
theorem a_Bh_need_4 : dk_at b_Bh_need 4 t_Bh_need_4 := dk_go 3 a_Bh_need_1 rfl
theorem a_Bh_need_7 : dk_at b_Bh_need 7 t_Bh_need_7 := dk_go 3 a_Bh_need_4 rfl
theorem a_Bh_need_8 : dk_at b_Bh_need 8 t_Bh_need_8 := dk_go 1 a_Bh_need_7 rfl
theorem a_Bh_need_11 : dk_at b_Bh_need 11 t_Bh_need_11 := dk_go 3 a_Bh_need_8 rfl
theorem a_Bh_need_14 : dk_at b_Bh_need 14 t_Bh_need_14 := dk_go 3 a_Bh_need_11 rfl
theorem a_Bh_need_15 : dk_at b_Bh_need 15 t_Bh_need_15 := dk_go 1 a_Bh_need_14 rfl
theorem a_Bh_need_18 : dk_at b_Bh_need 18 t_Bh_need_18 := dk_go 3 a_Bh_need_15 rfl
theorem a_Bh_need_19 : dk_at b_Bh_need 19 t_Bh_need_19 := dk_go 1 a_Bh_need_18 rfl
theorem a_Bh_need_20 : dk_at b_Bh_need 20 t_Bh_need_20 := dk_go 1 a_Bh_need_19 rfl
theorem a_Bh_need_23 : dk_at b_Bh_need 23 t_Bh_need_23 := dk_go 3 a_Bh_need_20 rfl
theorem a_Bh_need_24 : dk_at b_Bh_need 24 t_Bh_need_24 := dk_go 1 a_Bh_need_23 rfl
theorem a_Bh_need_25 : dk_at b_Bh_need 25 t_Bh_need_25 := dk_go 1 a_Bh_need_24 rfl
theorem a_Bh_need_26 : dk_at b_Bh_need 26 t_Bh_need_26 := dk_go 1 a_Bh_need_25 rfl
theorem a_Bh_need_29 : dk_at b_Bh_need 29 t_Bh_need_29 := dk_go 3 a_Bh_need_26 rfl
theorem a_Bh_need_32 : dk_at b_Bh_need 32 t_Bh_need_32 := dk_go 3 a_Bh_need_29 rfl
theorem a_Bh_need_33 : dk_at b_Bh_need 33 t_Bh_need_33 := dk_go 1 a_Bh_need_32 rfl
theorem a_Bh_need_35 : dk_at b_Bh_need 35 t_Bh_need_35 := dk_go 2 a_Bh_need_33 rfl
theorem a_Bh_need_36 : dk_at b_Bh_need 36 t_Bh_need_36 := dk_go 1 a_Bh_need_35 rfl
theorem a_Bh_need_37 : dk_at b_Bh_need 37 t_Bh_need_37 := dk_go 1 a_Bh_need_36 rfl
theorem a_Bh_need_38 : dk_at b_Bh_need 38 t_Bh_need_38 := dk_go 1 a_Bh_need_37 rfl
theorem a_Bh_need_39 : dk_at b_Bh_need 39 t_Bh_need_39 := dk_go 1 a_Bh_need_38 rfl
theorem a_Bh_need_40 : dk_at b_Bh_need 40 t_Bh_need_40 := dk_go 1 a_Bh_need_39 rfl
theorem a_Bh_need_41 : dk_at b_Bh_need 41 t_Bh_need_41 := dk_go 1 a_Bh_need_40 rfl
theorem d_Bh_need_0 : decode b_Bh_need 0 = .ok (.iload_n 1, 1) := dk_0 a_Bh_need_0 (dko_27 _)
theorem d_Bh_need_1 : decode b_Bh_need 1 = .ok (.invokestatic 200, 3) := dk_U2 a_Bh_need_1 (dko_184 _) rfl
theorem d_Bh_need_4 : decode b_Bh_need 4 = .ok (.ifCond .eq 19, 3) := dk_S2 a_Bh_need_4 (dko_153 _) (by decide +kernel)
theorem d_Bh_need_7 : decode b_Bh_need 7 = .ok (.iload_n 2, 1) := dk_0 a_Bh_need_7 (dko_28 _)
theorem d_Bh_need_8 : decode b_Bh_need 8 = .ok (.invokestatic 200, 3) := dk_U2 a_Bh_need_8 (dko_184 _) rfl
theorem d_Bh_need_11 : decode b_Bh_need 11 = .ok (.ifCond .eq 12, 3) := dk_S2 a_Bh_need_11 (dko_153 _) (by decide +kernel)
theorem d_Bh_need_14 : decode b_Bh_need 14 = .ok (.iload_n 3, 1) := dk_0 a_Bh_need_14 (dko_29 _)
theorem d_Bh_need_15 : decode b_Bh_need 15 = .ok (.ifCond .lt 8, 3) := dk_S2 a_Bh_need_15 (dko_155 _) (by decide +kernel)
theorem d_Bh_need_18 : decode b_Bh_need 18 = .ok (.iload_n 3, 1) := dk_0 a_Bh_need_18 (dko_29 _)
theorem d_Bh_need_19 : decode b_Bh_need 19 = .ok (.iconst 5, 1) := dk_0 a_Bh_need_19 (dko_8 _)
theorem d_Bh_need_20 : decode b_Bh_need 20 = .ok (.if_icmp .le 5, 3) := dk_S2 a_Bh_need_20 (dko_164 _) (by decide +kernel)
theorem d_Bh_need_23 : decode b_Bh_need 23 = .ok (.iconst 0, 1) := dk_0 a_Bh_need_23 (dko_3 _)
theorem d_Bh_need_24 : decode b_Bh_need 24 = .ok (.ireturn, 1) := dk_0 a_Bh_need_24 (dko_172 _)
theorem d_Bh_need_25 : decode b_Bh_need 25 = .ok (.aload_n 0, 1) := dk_0 a_Bh_need_25 (dko_42 _)
theorem d_Bh_need_26 : decode b_Bh_need 26 = .ok (.getfield 26, 3) := dk_U2 a_Bh_need_26 (dko_180 _) rfl
theorem d_Bh_need_29 : decode b_Bh_need 29 = .ok (.getfield 231, 3) := dk_U2 a_Bh_need_29 (dko_180 _) rfl
theorem d_Bh_need_32 : decode b_Bh_need 32 = .ok (.iload_n 1, 1) := dk_0 a_Bh_need_32 (dko_27 _)
theorem d_Bh_need_33 : decode b_Bh_need 33 = .ok (.bipush 15, 2) := dk_S1 a_Bh_need_33 (dko_16 _) (by decide +kernel)
theorem d_Bh_need_35 : decode b_Bh_need 35 = .ok (.imul, 1) := dk_0 a_Bh_need_35 (dko_104 _)
theorem d_Bh_need_36 : decode b_Bh_need 36 = .ok (.iload_n 2, 1) := dk_0 a_Bh_need_36 (dko_28 _)
theorem d_Bh_need_37 : decode b_Bh_need 37 = .ok (.iadd, 1) := dk_0 a_Bh_need_37 (dko_96 _)
theorem d_Bh_need_38 : decode b_Bh_need 38 = .ok (.iload_n 3, 1) := dk_0 a_Bh_need_38 (dko_29 _)
theorem d_Bh_need_39 : decode b_Bh_need 39 = .ok (.iastore, 1) := dk_0 a_Bh_need_39 (dko_79 _)
theorem d_Bh_need_40 : decode b_Bh_need 40 = .ok (.iconst 1, 1) := dk_0 a_Bh_need_40 (dko_4 _)
theorem d_Bh_need_41 : decode b_Bh_need 41 = .ok (.ireturn, 1) := dk_0 a_Bh_need_41 (dko_172 _)
set_option maxHeartbeats 4000000 in
set_option maxRecDepth 100000 in
theorem ok_Bh_need (pc : Nat) : OpS mt mi_Bh_need pc (cs_Bh_need pc) := (os_n (os_n (os_n (os_n (os_l (so_iload_n d_Bh_need_0 rfl)) (os_n (os_l (so_callS (iv := mi_Bh_isLiquid) rfl mw_1079 mw_1080 mw_1 mw_1081 ⟨by decide +kernel, by decide +kernel, by decide +kernel⟩ (by decide) d_Bh_need_1)) (os_l (so_ifeq d_Bh_need_4 (by decide))))) (os_n (os_l (so_iload_n d_Bh_need_7 rfl)) (os_n (os_l (so_callS (iv := mi_Bh_isLiquid) rfl mw_1079 mw_1080 mw_1 mw_1081 ⟨by decide +kernel, by decide +kernel, by decide +kernel⟩ (by decide) d_Bh_need_8)) (os_l (so_ifeq d_Bh_need_11 (by decide)))))) (os_n (os_n (os_l (so_iload_n d_Bh_need_14 rfl)) (os_n (os_l (so_iflt d_Bh_need_15 (by decide))) (os_l (so_iload_n d_Bh_need_18 rfl)))) (os_n (os_l (so_iconst d_Bh_need_19 (by decide))) (os_n (os_l (so_icle d_Bh_need_20 (by decide))) (os_l (so_iconst d_Bh_need_23 (by decide))))))) (os_n (os_n (os_n (os_l (so_zreturn rfl d_Bh_need_24)) (os_n (os_l (so_aload_n d_Bh_need_25 rfl)) (os_l (so_get (C := R_Bh) (T := F_Bh) (N := 16) (j := 2) in_Bh rfl (by decide) mw_686 d_Bh_need_26)))) (os_n (os_l (so_get (C := R_St) (T := F_St) (N := 12) (j := 10) in_St rfl (by decide) mw_180 d_Bh_need_29)) (os_n (os_l (so_iload_n d_Bh_need_32 rfl)) (os_l (so_bipush d_Bh_need_33 (by decide)))))) (os_n (os_n (os_l (so_imul d_Bh_need_35)) (os_n (os_l (so_iload_n d_Bh_need_36 rfl)) (os_l (so_iadd d_Bh_need_37)))) (os_n (os_n (os_l (so_iload_n d_Bh_need_38 rfl)) (os_l (so_iastore d_Bh_need_39))) (os_n (os_l (so_iconst d_Bh_need_40 (by decide))) (os_l (so_zreturn rfl d_Bh_need_41)))))))
abbrev t_Bh_lasts_33 : List UInt8 := 172 :: []
abbrev t_Bh_lasts_32 : List UInt8 := 4 :: t_Bh_lasts_33
abbrev t_Bh_lasts_31 : List UInt8 := 79 :: t_Bh_lasts_32
abbrev t_Bh_lasts_30 : List UInt8 := 28 :: t_Bh_lasts_31
abbrev t_Bh_lasts_29 : List UInt8 := 27 :: t_Bh_lasts_30
abbrev t_Bh_lasts_26 : List UInt8 := 180 :: 0 :: 235 :: t_Bh_lasts_29
abbrev t_Bh_lasts_23 : List UInt8 := 180 :: 0 :: 26 :: t_Bh_lasts_26
abbrev t_Bh_lasts_22 : List UInt8 := 42 :: t_Bh_lasts_23
abbrev t_Bh_lasts_21 : List UInt8 := 172 :: t_Bh_lasts_22
abbrev t_Bh_lasts_20 : List UInt8 := 3 :: t_Bh_lasts_21
abbrev t_Bh_lasts_17 : List UInt8 := 164 :: 0 :: 5 :: t_Bh_lasts_20
abbrev t_Bh_lasts_15 : List UInt8 := 18 :: 234 :: t_Bh_lasts_17
abbrev t_Bh_lasts_14 : List UInt8 := 28 :: t_Bh_lasts_15
abbrev t_Bh_lasts_11 : List UInt8 := 155 :: 0 :: 9 :: t_Bh_lasts_14
abbrev t_Bh_lasts_10 : List UInt8 := 28 :: t_Bh_lasts_11
abbrev t_Bh_lasts_7 : List UInt8 := 163 :: 0 :: 13 :: t_Bh_lasts_10
abbrev t_Bh_lasts_6 : List UInt8 := 8 :: t_Bh_lasts_7
abbrev t_Bh_lasts_5 : List UInt8 := 27 :: t_Bh_lasts_6
abbrev t_Bh_lasts_2 : List UInt8 := 161 :: 0 :: 18 :: t_Bh_lasts_5
abbrev t_Bh_lasts_1 : List UInt8 := 4 :: t_Bh_lasts_2
abbrev t_Bh_lasts_0 : List UInt8 := 27 :: t_Bh_lasts_1
theorem a_Bh_lasts_0 : dk_at b_Bh_lasts 0 t_Bh_lasts_0 := dk_start (by decide +kernel)
theorem a_Bh_lasts_1 : dk_at b_Bh_lasts 1 t_Bh_lasts_1 := dk_go 1 a_Bh_lasts_0 rfl
theorem a_Bh_lasts_2 : dk_at b_Bh_lasts 2 t_Bh_lasts_2 := dk_go 1 a_Bh_lasts_1 rfl
theorem a_Bh_lasts_5 : dk_at b_Bh_lasts 5 t_Bh_lasts_5 := dk_go 3 a_Bh_lasts_2 rfl
theorem a_Bh_lasts_6 : dk_at b_Bh_lasts 6 t_Bh_lasts_6 := dk_go 1 a_Bh_lasts_5 rfl
theorem a_Bh_lasts_7 : dk_at b_Bh_lasts 7 t_Bh_lasts_7 := dk_go 1 a_Bh_lasts_6 rfl
theorem a_Bh_lasts_10 : dk_at b_Bh_lasts 10 t_Bh_lasts_10 := dk_go 3 a_Bh_lasts_7 rfl
theorem a_Bh_lasts_11 : dk_at b_Bh_lasts 11 t_Bh_lasts_11 := dk_go 1 a_Bh_lasts_10 rfl
theorem a_Bh_lasts_14 : dk_at b_Bh_lasts 14 t_Bh_lasts_14 := dk_go 3 a_Bh_lasts_11 rfl
theorem a_Bh_lasts_15 : dk_at b_Bh_lasts 15 t_Bh_lasts_15 := dk_go 1 a_Bh_lasts_14 rfl
theorem a_Bh_lasts_17 : dk_at b_Bh_lasts 17 t_Bh_lasts_17 := dk_go 2 a_Bh_lasts_15 rfl
theorem a_Bh_lasts_20 : dk_at b_Bh_lasts 20 t_Bh_lasts_20 := dk_go 3 a_Bh_lasts_17 rfl
theorem a_Bh_lasts_21 : dk_at b_Bh_lasts 21 t_Bh_lasts_21 := dk_go 1 a_Bh_lasts_20 rfl
theorem a_Bh_lasts_22 : dk_at b_Bh_lasts 22 t_Bh_lasts_22 := dk_go 1 a_Bh_lasts_21 rfl
theorem a_Bh_lasts_23 : dk_at b_Bh_lasts 23 t_Bh_lasts_23 := dk_go 1 a_Bh_lasts_22 rfl
theorem a_Bh_lasts_26 : dk_at b_Bh_lasts 26 t_Bh_lasts_26 := dk_go 3 a_Bh_lasts_23 rfl
theorem a_Bh_lasts_29 : dk_at b_Bh_lasts 29 t_Bh_lasts_29 := dk_go 3 a_Bh_lasts_26 rfl
theorem a_Bh_lasts_30 : dk_at b_Bh_lasts 30 t_Bh_lasts_30 := dk_go 1 a_Bh_lasts_29 rfl
theorem a_Bh_lasts_31 : dk_at b_Bh_lasts 31 t_Bh_lasts_31 := dk_go 1 a_Bh_lasts_30 rfl
theorem a_Bh_lasts_32 : dk_at b_Bh_lasts 32 t_Bh_lasts_32 := dk_go 1 a_Bh_lasts_31 rfl
theorem a_Bh_lasts_33 : dk_at b_Bh_lasts 33 t_Bh_lasts_33 := dk_go 1 a_Bh_lasts_32 rfl
theorem d_Bh_lasts_0 : decode b_Bh_lasts 0 = .ok (.iload_n 1, 1) := dk_0 a_Bh_lasts_0 (dko_27 _)
theorem d_Bh_lasts_1 : decode b_Bh_lasts 1 = .ok (.iconst 1, 1) := dk_0 a_Bh_lasts_1 (dko_4 _)
theorem d_Bh_lasts_2 : decode b_Bh_lasts 2 = .ok (.if_icmp .lt 18, 3) := dk_S2 a_Bh_lasts_2 (dko_161 _) (by decide +kernel)
theorem d_Bh_lasts_5 : decode b_Bh_lasts 5 = .ok (.iload_n 1, 1) := dk_0 a_Bh_lasts_5 (dko_27 _)
theorem d_Bh_lasts_6 : decode b_Bh_lasts 6 = .ok (.iconst 5, 1) := dk_0 a_Bh_lasts_6 (dko_8 _)
theorem d_Bh_lasts_7 : decode b_Bh_lasts 7 = .ok (.if_icmp .gt 13, 3) := dk_S2 a_Bh_lasts_7 (dko_163 _) (by decide +kernel)
theorem d_Bh_lasts_10 : decode b_Bh_lasts 10 = .ok (.iload_n 2, 1) := dk_0 a_Bh_lasts_10 (dko_28 _)
theorem d_Bh_lasts_11 : decode b_Bh_lasts 11 = .ok (.ifCond .lt 9, 3) := dk_S2 a_Bh_lasts_11 (dko_155 _) (by decide +kernel)
theorem d_Bh_lasts_14 : decode b_Bh_lasts 14 = .ok (.iload_n 2, 1) := dk_0 a_Bh_lasts_14 (dko_28 _)
theorem d_Bh_lasts_15 : decode b_Bh_lasts 15 = .ok (.ldc 234, 2) := dk_U1 a_Bh_lasts_15 (dko_18 _) rfl
theorem d_Bh_lasts_17 : decode b_Bh_lasts 17 = .ok (.if_icmp .le 5, 3) := dk_S2 a_Bh_lasts_17 (dko_164 _) (by decide +kernel)
theorem d_Bh_lasts_20 : decode b_Bh_lasts 20 = .ok (.iconst 0, 1) := dk_0 a_Bh_lasts_20 (dko_3 _)
theorem d_Bh_lasts_21 : decode b_Bh_lasts 21 = .ok (.ireturn, 1) := dk_0 a_Bh_lasts_21 (dko_172 _)
theorem d_Bh_lasts_22 : decode b_Bh_lasts 22 = .ok (.aload_n 0, 1) := dk_0 a_Bh_lasts_22 (dko_42 _)
theorem d_Bh_lasts_23 : decode b_Bh_lasts 23 = .ok (.getfield 26, 3) := dk_U2 a_Bh_lasts_23 (dko_180 _) rfl
theorem d_Bh_lasts_26 : decode b_Bh_lasts 26 = .ok (.getfield 235, 3) := dk_U2 a_Bh_lasts_26 (dko_180 _) rfl
theorem d_Bh_lasts_29 : decode b_Bh_lasts 29 = .ok (.iload_n 1, 1) := dk_0 a_Bh_lasts_29 (dko_27 _)
theorem d_Bh_lasts_30 : decode b_Bh_lasts 30 = .ok (.iload_n 2, 1) := dk_0 a_Bh_lasts_30 (dko_28 _)
theorem d_Bh_lasts_31 : decode b_Bh_lasts 31 = .ok (.iastore, 1) := dk_0 a_Bh_lasts_31 (dko_79 _)
theorem d_Bh_lasts_32 : decode b_Bh_lasts 32 = .ok (.iconst 1, 1) := dk_0 a_Bh_lasts_32 (dko_4 _)
theorem d_Bh_lasts_33 : decode b_Bh_lasts 33 = .ok (.ireturn, 1) := dk_0 a_Bh_lasts_33 (dko_172 _)
set_option maxHeartbeats 4000000 in
set_option maxRecDepth 100000 in
theorem ok_Bh_lasts (pc : Nat) : OpS mt mi_Bh_lasts pc (cs_Bh_lasts pc) := (os_n (os_n (os_n (os_n (os_l (so_iload_n d_Bh_lasts_0 rfl)) (os_l (so_iconst d_Bh_lasts_1 (by decide)))) (os_n (os_l (so_iclt d_Bh_lasts_2 (by decide))) (os_n (os_l (so_iload_n d_Bh_lasts_5 rfl)) (os_l (so_iconst d_Bh_lasts_6 (by decide)))))) (os_n (os_n (os_l (so_icgt d_Bh_lasts_7 (by decide))) (os_l (so_iload_n d_Bh_lasts_10 rfl))) (os_n (os_l (so_iflt d_Bh_lasts_11 (by decide))) (os_n (os_l (so_iload_n d_Bh_lasts_14 rfl)) (os_l (so_ldc mw_1153 d_Bh_lasts_15)))))) (os_n (os_n (os_n (os_l (so_icle d_Bh_lasts_17 (by decide))) (os_l (so_iconst d_Bh_lasts_20 (by decide)))) (os_n (os_l (so_zreturn rfl d_Bh_lasts_21)) (os_n (os_l (so_aload_n d_Bh_lasts_22 rfl)) (os_l (so_get (C := R_Bh) (T := F_Bh) (N := 16) (j := 2) in_Bh rfl (by decide) mw_686 d_Bh_lasts_23))))) (os_n (os_n (os_l (so_get (C := R_St) (T := F_St) (N := 12) (j := 11) in_St rfl (by decide) mw_182 d_Bh_lasts_26)) (os_n (os_l (so_iload_n d_Bh_lasts_29 rfl)) (os_l (so_iload_n d_Bh_lasts_30 rfl)))) (os_n (os_l (so_iastore d_Bh_lasts_31)) (os_n (os_l (so_iconst d_Bh_lasts_32 (by decide))) (os_l (so_zreturn rfl d_Bh_lasts_33)))))))
abbrev t_Bh_sense_52 : List UInt8 := 172 :: []
abbrev t_Bh_sense_51 : List UInt8 := 4 :: t_Bh_sense_52
abbrev t_Bh_sense_50 : List UInt8 := 79 :: t_Bh_sense_51
abbrev t_Bh_sense_49 : List UInt8 := 29 :: t_Bh_sense_50
abbrev t_Bh_sense_48 : List UInt8 := 27 :: t_Bh_sense_49
abbrev t_Bh_sense_45 : List UInt8 := 180 :: 0 :: 244 :: t_Bh_sense_48
abbrev t_Bh_sense_42 : List UInt8 := 180 :: 0 :: 183 :: t_Bh_sense_45
abbrev t_Bh_sense_39 : List UInt8 := 180 :: 0 :: 62 :: t_Bh_sense_42
abbrev t_Bh_sense_38 : List UInt8 := 42 :: t_Bh_sense_39
abbrev t_Bh_sense_37 : List UInt8 := 79 :: t_Bh_sense_38
abbrev t_Bh_sense_36 : List UInt8 := 28 :: t_Bh_sense_37
abbrev t_Bh_sense_35 : List UInt8 := 27 :: t_Bh_sense_36
abbrev t_Bh_sense_32 : List UInt8 := 180 :: 0 :: 241 :: t_Bh_sense_35
abbrev t_Bh_sense_29 : List UInt8 := 180 :: 0 :: 183 :: t_Bh_sense_32
abbrev t_Bh_sense_26 : List UInt8 := 180 :: 0 :: 62 :: t_Bh_sense_29
abbrev t_Bh_sense_25 : List UInt8 := 42 :: t_Bh_sense_26
abbrev t_Bh_sense_24 : List UInt8 := 172 :: t_Bh_sense_25
abbrev t_Bh_sense_23 : List UInt8 := 3 :: t_Bh_sense_24
abbrev t_Bh_sense_20 : List UInt8 := 164 :: 0 :: 5 :: t_Bh_sense_23
abbrev t_Bh_sense_19 : List UInt8 := 8 :: t_Bh_sense_20
abbrev t_Bh_sense_18 : List UInt8 := 28 :: t_Bh_sense_19
abbrev t_Bh_sense_15 : List UInt8 := 155 :: 0 :: 8 :: t_Bh_sense_18
abbrev t_Bh_sense_14 : List UInt8 := 28 :: t_Bh_sense_15
abbrev t_Bh_sense_11 : List UInt8 := 153 :: 0 :: 12 :: t_Bh_sense_14
abbrev t_Bh_sense_8 : List UInt8 := 182 :: 0 :: 238 :: t_Bh_sense_11
abbrev t_Bh_sense_7 : List UInt8 := 27 :: t_Bh_sense_8
abbrev t_Bh_sense_4 : List UInt8 := 180 :: 0 :: 183 :: t_Bh_sense_7
abbrev t_Bh_sense_1 : List UInt8 := 180 :: 0 :: 62 :: t_Bh_sense_4
abbrev t_Bh_sense_0 : List UInt8 := 42 :: t_Bh_sense_1
theorem a_Bh_sense_0 : dk_at b_Bh_sense 0 t_Bh_sense_0 := dk_start (by decide +kernel)
theorem a_Bh_sense_1 : dk_at b_Bh_sense 1 t_Bh_sense_1 := dk_go 1 a_Bh_sense_0 rfl
theorem a_Bh_sense_4 : dk_at b_Bh_sense 4 t_Bh_sense_4 := dk_go 3 a_Bh_sense_1 rfl
theorem a_Bh_sense_7 : dk_at b_Bh_sense 7 t_Bh_sense_7 := dk_go 3 a_Bh_sense_4 rfl
theorem a_Bh_sense_8 : dk_at b_Bh_sense 8 t_Bh_sense_8 := dk_go 1 a_Bh_sense_7 rfl
theorem a_Bh_sense_11 : dk_at b_Bh_sense 11 t_Bh_sense_11 := dk_go 3 a_Bh_sense_8 rfl
theorem a_Bh_sense_14 : dk_at b_Bh_sense 14 t_Bh_sense_14 := dk_go 3 a_Bh_sense_11 rfl
theorem a_Bh_sense_15 : dk_at b_Bh_sense 15 t_Bh_sense_15 := dk_go 1 a_Bh_sense_14 rfl
theorem a_Bh_sense_18 : dk_at b_Bh_sense 18 t_Bh_sense_18 := dk_go 3 a_Bh_sense_15 rfl
theorem a_Bh_sense_19 : dk_at b_Bh_sense 19 t_Bh_sense_19 := dk_go 1 a_Bh_sense_18 rfl
theorem a_Bh_sense_20 : dk_at b_Bh_sense 20 t_Bh_sense_20 := dk_go 1 a_Bh_sense_19 rfl
theorem a_Bh_sense_23 : dk_at b_Bh_sense 23 t_Bh_sense_23 := dk_go 3 a_Bh_sense_20 rfl
theorem a_Bh_sense_24 : dk_at b_Bh_sense 24 t_Bh_sense_24 := dk_go 1 a_Bh_sense_23 rfl
theorem a_Bh_sense_25 : dk_at b_Bh_sense 25 t_Bh_sense_25 := dk_go 1 a_Bh_sense_24 rfl
theorem a_Bh_sense_26 : dk_at b_Bh_sense 26 t_Bh_sense_26 := dk_go 1 a_Bh_sense_25 rfl
theorem a_Bh_sense_29 : dk_at b_Bh_sense 29 t_Bh_sense_29 := dk_go 3 a_Bh_sense_26 rfl
theorem a_Bh_sense_32 : dk_at b_Bh_sense 32 t_Bh_sense_32 := dk_go 3 a_Bh_sense_29 rfl
theorem a_Bh_sense_35 : dk_at b_Bh_sense 35 t_Bh_sense_35 := dk_go 3 a_Bh_sense_32 rfl
theorem a_Bh_sense_36 : dk_at b_Bh_sense 36 t_Bh_sense_36 := dk_go 1 a_Bh_sense_35 rfl
theorem a_Bh_sense_37 : dk_at b_Bh_sense 37 t_Bh_sense_37 := dk_go 1 a_Bh_sense_36 rfl
theorem a_Bh_sense_38 : dk_at b_Bh_sense 38 t_Bh_sense_38 := dk_go 1 a_Bh_sense_37 rfl
theorem a_Bh_sense_39 : dk_at b_Bh_sense 39 t_Bh_sense_39 := dk_go 1 a_Bh_sense_38 rfl
theorem a_Bh_sense_42 : dk_at b_Bh_sense 42 t_Bh_sense_42 := dk_go 3 a_Bh_sense_39 rfl
theorem a_Bh_sense_45 : dk_at b_Bh_sense 45 t_Bh_sense_45 := dk_go 3 a_Bh_sense_42 rfl
theorem a_Bh_sense_48 : dk_at b_Bh_sense 48 t_Bh_sense_48 := dk_go 3 a_Bh_sense_45 rfl
theorem a_Bh_sense_49 : dk_at b_Bh_sense 49 t_Bh_sense_49 := dk_go 1 a_Bh_sense_48 rfl
theorem a_Bh_sense_50 : dk_at b_Bh_sense 50 t_Bh_sense_50 := dk_go 1 a_Bh_sense_49 rfl
theorem a_Bh_sense_51 : dk_at b_Bh_sense 51 t_Bh_sense_51 := dk_go 1 a_Bh_sense_50 rfl
theorem a_Bh_sense_52 : dk_at b_Bh_sense 52 t_Bh_sense_52 := dk_go 1 a_Bh_sense_51 rfl
theorem d_Bh_sense_0 : decode b_Bh_sense 0 = .ok (.aload_n 0, 1) := dk_0 a_Bh_sense_0 (dko_42 _)
theorem d_Bh_sense_1 : decode b_Bh_sense 1 = .ok (.getfield 62, 3) := dk_U2 a_Bh_sense_1 (dko_180 _) rfl
theorem d_Bh_sense_4 : decode b_Bh_sense 4 = .ok (.getfield 183, 3) := dk_U2 a_Bh_sense_4 (dko_180 _) rfl
theorem d_Bh_sense_7 : decode b_Bh_sense 7 = .ok (.iload_n 1, 1) := dk_0 a_Bh_sense_7 (dko_27 _)
theorem d_Bh_sense_8 : decode b_Bh_sense 8 = .ok (.invokevirtual 238, 3) := dk_U2 a_Bh_sense_8 (dko_182 _) rfl
theorem d_Bh_sense_11 : decode b_Bh_sense 11 = .ok (.ifCond .eq 12, 3) := dk_S2 a_Bh_sense_11 (dko_153 _) (by decide +kernel)
theorem d_Bh_sense_14 : decode b_Bh_sense 14 = .ok (.iload_n 2, 1) := dk_0 a_Bh_sense_14 (dko_28 _)
theorem d_Bh_sense_15 : decode b_Bh_sense 15 = .ok (.ifCond .lt 8, 3) := dk_S2 a_Bh_sense_15 (dko_155 _) (by decide +kernel)
theorem d_Bh_sense_18 : decode b_Bh_sense 18 = .ok (.iload_n 2, 1) := dk_0 a_Bh_sense_18 (dko_28 _)
theorem d_Bh_sense_19 : decode b_Bh_sense 19 = .ok (.iconst 5, 1) := dk_0 a_Bh_sense_19 (dko_8 _)
theorem d_Bh_sense_20 : decode b_Bh_sense 20 = .ok (.if_icmp .le 5, 3) := dk_S2 a_Bh_sense_20 (dko_164 _) (by decide +kernel)
theorem d_Bh_sense_23 : decode b_Bh_sense 23 = .ok (.iconst 0, 1) := dk_0 a_Bh_sense_23 (dko_3 _)
theorem d_Bh_sense_24 : decode b_Bh_sense 24 = .ok (.ireturn, 1) := dk_0 a_Bh_sense_24 (dko_172 _)
theorem d_Bh_sense_25 : decode b_Bh_sense 25 = .ok (.aload_n 0, 1) := dk_0 a_Bh_sense_25 (dko_42 _)
theorem d_Bh_sense_26 : decode b_Bh_sense 26 = .ok (.getfield 62, 3) := dk_U2 a_Bh_sense_26 (dko_180 _) rfl
theorem d_Bh_sense_29 : decode b_Bh_sense 29 = .ok (.getfield 183, 3) := dk_U2 a_Bh_sense_29 (dko_180 _) rfl
theorem d_Bh_sense_32 : decode b_Bh_sense 32 = .ok (.getfield 241, 3) := dk_U2 a_Bh_sense_32 (dko_180 _) rfl
theorem d_Bh_sense_35 : decode b_Bh_sense 35 = .ok (.iload_n 1, 1) := dk_0 a_Bh_sense_35 (dko_27 _)
theorem d_Bh_sense_36 : decode b_Bh_sense 36 = .ok (.iload_n 2, 1) := dk_0 a_Bh_sense_36 (dko_28 _)
theorem d_Bh_sense_37 : decode b_Bh_sense 37 = .ok (.iastore, 1) := dk_0 a_Bh_sense_37 (dko_79 _)
theorem d_Bh_sense_38 : decode b_Bh_sense 38 = .ok (.aload_n 0, 1) := dk_0 a_Bh_sense_38 (dko_42 _)
theorem d_Bh_sense_39 : decode b_Bh_sense 39 = .ok (.getfield 62, 3) := dk_U2 a_Bh_sense_39 (dko_180 _) rfl
theorem d_Bh_sense_42 : decode b_Bh_sense 42 = .ok (.getfield 183, 3) := dk_U2 a_Bh_sense_42 (dko_180 _) rfl
theorem d_Bh_sense_45 : decode b_Bh_sense 45 = .ok (.getfield 244, 3) := dk_U2 a_Bh_sense_45 (dko_180 _) rfl
theorem d_Bh_sense_48 : decode b_Bh_sense 48 = .ok (.iload_n 1, 1) := dk_0 a_Bh_sense_48 (dko_27 _)
theorem d_Bh_sense_49 : decode b_Bh_sense 49 = .ok (.iload_n 3, 1) := dk_0 a_Bh_sense_49 (dko_29 _)
theorem d_Bh_sense_50 : decode b_Bh_sense 50 = .ok (.iastore, 1) := dk_0 a_Bh_sense_50 (dko_79 _)
theorem d_Bh_sense_51 : decode b_Bh_sense 51 = .ok (.iconst 1, 1) := dk_0 a_Bh_sense_51 (dko_4 _)
theorem d_Bh_sense_52 : decode b_Bh_sense 52 = .ok (.ireturn, 1) := dk_0 a_Bh_sense_52 (dko_172 _)
set_option maxHeartbeats 4000000 in
set_option maxRecDepth 100000 in
theorem ok_Bh_sense (pc : Nat) : OpS mt mi_Bh_sense pc (cs_Bh_sense pc) := (os_n (os_n (os_n (os_n (os_l (so_aload_n d_Bh_sense_0 rfl)) (os_n (os_l (so_get (C := R_Bh) (T := F_Bh) (N := 16) (j := 6) in_Bh rfl (by decide) mw_690 d_Bh_sense_1)) (os_l (so_get (C := R_Ru) (T := F_Ru) (N := 21) (j := 3) in_Ru rfl (by decide) mw_515 d_Bh_sense_4)))) (os_n (os_n (os_l (so_iload_n d_Bh_sense_7 rfl)) (os_l (so_callV (iv := mi_Pr_isSignal) rfl rfl rfl mw_1158 mw_1159 mw_1160 mw_12 mw_1161 ⟨by decide +kernel, by decide +kernel, by decide +kernel⟩ (by decide) d_Bh_sense_8))) (os_n (os_l (so_ifeq d_Bh_sense_11 (by decide))) (os_l (so_iload_n d_Bh_sense_14 rfl))))) (os_n (os_n (os_l (so_iflt d_Bh_sense_15 (by decide))) (os_n (os_l (so_iload_n d_Bh_sense_18 rfl)) (os_l (so_iconst d_Bh_sense_19 (by decide))))) (os_n (os_n (os_l (so_icle d_Bh_sense_20 (by decide))) (os_l (so_iconst d_Bh_sense_23 (by decide)))) (os_n (os_l (so_zreturn rfl d_Bh_sense_24)) (os_l (so_aload_n d_Bh_sense_25 rfl)))))) (os_n (os_n (os_n (os_l (so_get (C := R_Bh) (T := F_Bh) (N := 16) (j := 6) in_Bh rfl (by decide) mw_690 d_Bh_sense_26)) (os_n (os_l (so_get (C := R_Ru) (T := F_Ru) (N := 21) (j := 3) in_Ru rfl (by decide) mw_515 d_Bh_sense_29)) (os_l (so_get (C := R_Pr) (T := F_Pr) (N := 18) (j := 16) in_Pr rfl (by decide) mw_471 d_Bh_sense_32)))) (os_n (os_n (os_l (so_iload_n d_Bh_sense_35 rfl)) (os_l (so_iload_n d_Bh_sense_36 rfl))) (os_n (os_l (so_iastore d_Bh_sense_37)) (os_l (so_aload_n d_Bh_sense_38 rfl))))) (os_n (os_n (os_n (os_l (so_get (C := R_Bh) (T := F_Bh) (N := 16) (j := 6) in_Bh rfl (by decide) mw_690 d_Bh_sense_39)) (os_l (so_get (C := R_Ru) (T := F_Ru) (N := 21) (j := 3) in_Ru rfl (by decide) mw_515 d_Bh_sense_42))) (os_n (os_l (so_get (C := R_Pr) (T := F_Pr) (N := 18) (j := 17) in_Pr rfl (by decide) mw_473 d_Bh_sense_45)) (os_l (so_iload_n d_Bh_sense_48 rfl)))) (os_n (os_n (os_l (so_iload_n d_Bh_sense_49 rfl)) (os_l (so_iastore d_Bh_sense_50))) (os_n (os_l (so_iconst d_Bh_sense_51 (by decide))) (os_l (so_zreturn rfl d_Bh_sense_52)))))))
abbrev t_Bh_watch_44 : List UInt8 := 172 :: []
abbrev t_Bh_watch_43 : List UInt8 := 4 :: t_Bh_watch_44
abbrev t_Bh_watch_42 : List UInt8 := 80 :: t_Bh_watch_43
abbrev t_Bh_watch_40 : List UInt8 := 22 :: 4 :: t_Bh_watch_42
abbrev t_Bh_watch_39 : List UInt8 := 27 :: t_Bh_watch_40
abbrev t_Bh_watch_36 : List UInt8 := 180 :: 0 :: 105 :: t_Bh_watch_39
abbrev t_Bh_watch_35 : List UInt8 := 42 :: t_Bh_watch_36
abbrev t_Bh_watch_34 : List UInt8 := 79 :: t_Bh_watch_35
abbrev t_Bh_watch_33 : List UInt8 := 29 :: t_Bh_watch_34
abbrev t_Bh_watch_32 : List UInt8 := 27 :: t_Bh_watch_33
abbrev t_Bh_watch_29 : List UInt8 := 180 :: 0 :: 102 :: t_Bh_watch_32
abbrev t_Bh_watch_28 : List UInt8 := 42 :: t_Bh_watch_29
abbrev t_Bh_watch_27 : List UInt8 := 79 :: t_Bh_watch_28
abbrev t_Bh_watch_26 : List UInt8 := 28 :: t_Bh_watch_27
abbrev t_Bh_watch_25 : List UInt8 := 27 :: t_Bh_watch_26
abbrev t_Bh_watch_22 : List UInt8 := 180 :: 0 :: 98 :: t_Bh_watch_25
abbrev t_Bh_watch_21 : List UInt8 := 42 :: t_Bh_watch_22
abbrev t_Bh_watch_20 : List UInt8 := 172 :: t_Bh_watch_21
abbrev t_Bh_watch_19 : List UInt8 := 3 :: t_Bh_watch_20
abbrev t_Bh_watch_16 : List UInt8 := 164 :: 0 :: 5 :: t_Bh_watch_19
abbrev t_Bh_watch_15 : List UInt8 := 8 :: t_Bh_watch_16
abbrev t_Bh_watch_14 : List UInt8 := 28 :: t_Bh_watch_15
abbrev t_Bh_watch_11 : List UInt8 := 155 :: 0 :: 8 :: t_Bh_watch_14
abbrev t_Bh_watch_10 : List UInt8 := 28 :: t_Bh_watch_11
abbrev t_Bh_watch_7 : List UInt8 := 163 :: 0 :: 12 :: t_Bh_watch_10
abbrev t_Bh_watch_5 : List UInt8 := 16 :: 15 :: t_Bh_watch_7
abbrev t_Bh_watch_4 : List UInt8 := 27 :: t_Bh_watch_5
abbrev t_Bh_watch_1 : List UInt8 := 155 :: 0 :: 18 :: t_Bh_watch_4
abbrev t_Bh_watch_0 : List UInt8 := 27 :: t_Bh_watch_1
theorem a_Bh_watch_0 : dk_at b_Bh_watch 0 t_Bh_watch_0 := dk_start (by decide +kernel)
theorem a_Bh_watch_1 : dk_at b_Bh_watch 1 t_Bh_watch_1 := dk_go 1 a_Bh_watch_0 rfl
theorem a_Bh_watch_4 : dk_at b_Bh_watch 4 t_Bh_watch_4 := dk_go 3 a_Bh_watch_1 rfl
theorem a_Bh_watch_5 : dk_at b_Bh_watch 5 t_Bh_watch_5 := dk_go 1 a_Bh_watch_4 rfl
theorem a_Bh_watch_7 : dk_at b_Bh_watch 7 t_Bh_watch_7 := dk_go 2 a_Bh_watch_5 rfl
theorem a_Bh_watch_10 : dk_at b_Bh_watch 10 t_Bh_watch_10 := dk_go 3 a_Bh_watch_7 rfl
theorem a_Bh_watch_11 : dk_at b_Bh_watch 11 t_Bh_watch_11 := dk_go 1 a_Bh_watch_10 rfl
theorem a_Bh_watch_14 : dk_at b_Bh_watch 14 t_Bh_watch_14 := dk_go 3 a_Bh_watch_11 rfl
theorem a_Bh_watch_15 : dk_at b_Bh_watch 15 t_Bh_watch_15 := dk_go 1 a_Bh_watch_14 rfl
theorem a_Bh_watch_16 : dk_at b_Bh_watch 16 t_Bh_watch_16 := dk_go 1 a_Bh_watch_15 rfl
theorem a_Bh_watch_19 : dk_at b_Bh_watch 19 t_Bh_watch_19 := dk_go 3 a_Bh_watch_16 rfl
theorem a_Bh_watch_20 : dk_at b_Bh_watch 20 t_Bh_watch_20 := dk_go 1 a_Bh_watch_19 rfl
theorem a_Bh_watch_21 : dk_at b_Bh_watch 21 t_Bh_watch_21 := dk_go 1 a_Bh_watch_20 rfl
theorem a_Bh_watch_22 : dk_at b_Bh_watch 22 t_Bh_watch_22 := dk_go 1 a_Bh_watch_21 rfl
theorem a_Bh_watch_25 : dk_at b_Bh_watch 25 t_Bh_watch_25 := dk_go 3 a_Bh_watch_22 rfl
theorem a_Bh_watch_26 : dk_at b_Bh_watch 26 t_Bh_watch_26 := dk_go 1 a_Bh_watch_25 rfl
theorem a_Bh_watch_27 : dk_at b_Bh_watch 27 t_Bh_watch_27 := dk_go 1 a_Bh_watch_26 rfl
theorem a_Bh_watch_28 : dk_at b_Bh_watch 28 t_Bh_watch_28 := dk_go 1 a_Bh_watch_27 rfl
theorem a_Bh_watch_29 : dk_at b_Bh_watch 29 t_Bh_watch_29 := dk_go 1 a_Bh_watch_28 rfl
theorem a_Bh_watch_32 : dk_at b_Bh_watch 32 t_Bh_watch_32 := dk_go 3 a_Bh_watch_29 rfl
theorem a_Bh_watch_33 : dk_at b_Bh_watch 33 t_Bh_watch_33 := dk_go 1 a_Bh_watch_32 rfl
theorem a_Bh_watch_34 : dk_at b_Bh_watch 34 t_Bh_watch_34 := dk_go 1 a_Bh_watch_33 rfl
theorem a_Bh_watch_35 : dk_at b_Bh_watch 35 t_Bh_watch_35 := dk_go 1 a_Bh_watch_34 rfl
theorem a_Bh_watch_36 : dk_at b_Bh_watch 36 t_Bh_watch_36 := dk_go 1 a_Bh_watch_35 rfl
theorem a_Bh_watch_39 : dk_at b_Bh_watch 39 t_Bh_watch_39 := dk_go 3 a_Bh_watch_36 rfl
theorem a_Bh_watch_40 : dk_at b_Bh_watch 40 t_Bh_watch_40 := dk_go 1 a_Bh_watch_39 rfl
theorem a_Bh_watch_42 : dk_at b_Bh_watch 42 t_Bh_watch_42 := dk_go 2 a_Bh_watch_40 rfl
theorem a_Bh_watch_43 : dk_at b_Bh_watch 43 t_Bh_watch_43 := dk_go 1 a_Bh_watch_42 rfl
theorem a_Bh_watch_44 : dk_at b_Bh_watch 44 t_Bh_watch_44 := dk_go 1 a_Bh_watch_43 rfl
theorem d_Bh_watch_0 : decode b_Bh_watch 0 = .ok (.iload_n 1, 1) := dk_0 a_Bh_watch_0 (dko_27 _)
theorem d_Bh_watch_1 : decode b_Bh_watch 1 = .ok (.ifCond .lt 18, 3) := dk_S2 a_Bh_watch_1 (dko_155 _) (by decide +kernel)
theorem d_Bh_watch_4 : decode b_Bh_watch 4 = .ok (.iload_n 1, 1) := dk_0 a_Bh_watch_4 (dko_27 _)
theorem d_Bh_watch_5 : decode b_Bh_watch 5 = .ok (.bipush 15, 2) := dk_S1 a_Bh_watch_5 (dko_16 _) (by decide +kernel)
theorem d_Bh_watch_7 : decode b_Bh_watch 7 = .ok (.if_icmp .gt 12, 3) := dk_S2 a_Bh_watch_7 (dko_163 _) (by decide +kernel)
theorem d_Bh_watch_10 : decode b_Bh_watch 10 = .ok (.iload_n 2, 1) := dk_0 a_Bh_watch_10 (dko_28 _)
theorem d_Bh_watch_11 : decode b_Bh_watch 11 = .ok (.ifCond .lt 8, 3) := dk_S2 a_Bh_watch_11 (dko_155 _) (by decide +kernel)
theorem d_Bh_watch_14 : decode b_Bh_watch 14 = .ok (.iload_n 2, 1) := dk_0 a_Bh_watch_14 (dko_28 _)
theorem d_Bh_watch_15 : decode b_Bh_watch 15 = .ok (.iconst 5, 1) := dk_0 a_Bh_watch_15 (dko_8 _)
theorem d_Bh_watch_16 : decode b_Bh_watch 16 = .ok (.if_icmp .le 5, 3) := dk_S2 a_Bh_watch_16 (dko_164 _) (by decide +kernel)
theorem d_Bh_watch_19 : decode b_Bh_watch 19 = .ok (.iconst 0, 1) := dk_0 a_Bh_watch_19 (dko_3 _)
theorem d_Bh_watch_20 : decode b_Bh_watch 20 = .ok (.ireturn, 1) := dk_0 a_Bh_watch_20 (dko_172 _)
theorem d_Bh_watch_21 : decode b_Bh_watch 21 = .ok (.aload_n 0, 1) := dk_0 a_Bh_watch_21 (dko_42 _)
theorem d_Bh_watch_22 : decode b_Bh_watch 22 = .ok (.getfield 98, 3) := dk_U2 a_Bh_watch_22 (dko_180 _) rfl
theorem d_Bh_watch_25 : decode b_Bh_watch 25 = .ok (.iload_n 1, 1) := dk_0 a_Bh_watch_25 (dko_27 _)
theorem d_Bh_watch_26 : decode b_Bh_watch 26 = .ok (.iload_n 2, 1) := dk_0 a_Bh_watch_26 (dko_28 _)
theorem d_Bh_watch_27 : decode b_Bh_watch 27 = .ok (.iastore, 1) := dk_0 a_Bh_watch_27 (dko_79 _)
theorem d_Bh_watch_28 : decode b_Bh_watch 28 = .ok (.aload_n 0, 1) := dk_0 a_Bh_watch_28 (dko_42 _)
theorem d_Bh_watch_29 : decode b_Bh_watch 29 = .ok (.getfield 102, 3) := dk_U2 a_Bh_watch_29 (dko_180 _) rfl
theorem d_Bh_watch_32 : decode b_Bh_watch 32 = .ok (.iload_n 1, 1) := dk_0 a_Bh_watch_32 (dko_27 _)
theorem d_Bh_watch_33 : decode b_Bh_watch 33 = .ok (.iload_n 3, 1) := dk_0 a_Bh_watch_33 (dko_29 _)
theorem d_Bh_watch_34 : decode b_Bh_watch 34 = .ok (.iastore, 1) := dk_0 a_Bh_watch_34 (dko_79 _)
theorem d_Bh_watch_35 : decode b_Bh_watch 35 = .ok (.aload_n 0, 1) := dk_0 a_Bh_watch_35 (dko_42 _)
theorem d_Bh_watch_36 : decode b_Bh_watch 36 = .ok (.getfield 105, 3) := dk_U2 a_Bh_watch_36 (dko_180 _) rfl
theorem d_Bh_watch_39 : decode b_Bh_watch 39 = .ok (.iload_n 1, 1) := dk_0 a_Bh_watch_39 (dko_27 _)
theorem d_Bh_watch_40 : decode b_Bh_watch 40 = .ok (.lload 4, 2) := dk_U1 a_Bh_watch_40 (dko_22 _) rfl
theorem d_Bh_watch_42 : decode b_Bh_watch 42 = .ok (.lastore, 1) := dk_0 a_Bh_watch_42 (dko_80 _)
theorem d_Bh_watch_43 : decode b_Bh_watch 43 = .ok (.iconst 1, 1) := dk_0 a_Bh_watch_43 (dko_4 _)
theorem d_Bh_watch_44 : decode b_Bh_watch 44 = .ok (.ireturn, 1) := dk_0 a_Bh_watch_44 (dko_172 _)
set_option maxHeartbeats 4000000 in
set_option maxRecDepth 100000 in
theorem ok_Bh_watch (pc : Nat) : OpS mt mi_Bh_watch pc (cs_Bh_watch pc) := (os_n (os_n (os_n (os_n (os_l (so_iload_n d_Bh_watch_0 rfl)) (os_n (os_l (so_iflt d_Bh_watch_1 (by decide))) (os_l (so_iload_n d_Bh_watch_4 rfl)))) (os_n (os_n (os_l (so_bipush d_Bh_watch_5 (by decide))) (os_l (so_icgt d_Bh_watch_7 (by decide)))) (os_n (os_l (so_iload_n d_Bh_watch_10 rfl)) (os_l (so_iflt d_Bh_watch_11 (by decide)))))) (os_n (os_n (os_l (so_iload_n d_Bh_watch_14 rfl)) (os_n (os_l (so_iconst d_Bh_watch_15 (by decide))) (os_l (so_icle d_Bh_watch_16 (by decide))))) (os_n (os_n (os_l (so_iconst d_Bh_watch_19 (by decide))) (os_l (so_zreturn rfl d_Bh_watch_20))) (os_n (os_l (so_aload_n d_Bh_watch_21 rfl)) (os_l (so_get (C := R_Bh) (T := F_Bh) (N := 16) (j := 13) in_Bh rfl (by decide) mw_697 d_Bh_watch_22)))))) (os_n (os_n (os_n (os_l (so_iload_n d_Bh_watch_25 rfl)) (os_n (os_l (so_iload_n d_Bh_watch_26 rfl)) (os_l (so_iastore d_Bh_watch_27)))) (os_n (os_n (os_l (so_aload_n d_Bh_watch_28 rfl)) (os_l (so_get (C := R_Bh) (T := F_Bh) (N := 16) (j := 14) in_Bh rfl (by decide) mw_698 d_Bh_watch_29))) (os_n (os_l (so_iload_n d_Bh_watch_32 rfl)) (os_l (so_iload_n d_Bh_watch_33 rfl))))) (os_n (os_n (os_n (os_l (so_iastore d_Bh_watch_34)) (os_l (so_aload_n d_Bh_watch_35 rfl))) (os_n (os_l (so_get (C := R_Bh) (T := F_Bh) (N := 16) (j := 15) in_Bh rfl (by decide) mw_699 d_Bh_watch_36)) (os_l (so_iload_n d_Bh_watch_39 rfl)))) (os_n (os_n (os_l (so_lload d_Bh_watch_40)) (os_l (so_lastore d_Bh_watch_42))) (os_n (os_l (so_iconst d_Bh_watch_43 (by decide))) (os_l (so_zreturn rfl d_Bh_watch_44)))))))
abbrev t_Bh_signal_30 : List UInt8 := 172 :: []
abbrev t_Bh_signal_29 : List UInt8 := 4 :: t_Bh_signal_30
abbrev t_Bh_signal_28 : List UInt8 := 80 :: t_Bh_signal_29
abbrev t_Bh_signal_27 : List UInt8 := 32 :: t_Bh_signal_28
abbrev t_Bh_signal_26 : List UInt8 := 27 :: t_Bh_signal_27
abbrev t_Bh_signal_23 : List UInt8 := 180 :: 0 :: 247 :: t_Bh_signal_26
abbrev t_Bh_signal_20 : List UInt8 := 180 :: 0 :: 183 :: t_Bh_signal_23
abbrev t_Bh_signal_17 : List UInt8 := 180 :: 0 :: 62 :: t_Bh_signal_20
abbrev t_Bh_signal_16 : List UInt8 := 42 :: t_Bh_signal_17
abbrev t_Bh_signal_15 : List UInt8 := 172 :: t_Bh_signal_16
abbrev t_Bh_signal_14 : List UInt8 := 3 :: t_Bh_signal_15
abbrev t_Bh_signal_11 : List UInt8 := 154 :: 0 :: 5 :: t_Bh_signal_14
abbrev t_Bh_signal_8 : List UInt8 := 182 :: 0 :: 238 :: t_Bh_signal_11
abbrev t_Bh_signal_7 : List UInt8 := 27 :: t_Bh_signal_8
abbrev t_Bh_signal_4 : List UInt8 := 180 :: 0 :: 183 :: t_Bh_signal_7
abbrev t_Bh_signal_1 : List UInt8 := 180 :: 0 :: 62 :: t_Bh_signal_4
abbrev t_Bh_signal_0 : List UInt8 := 42 :: t_Bh_signal_1
theorem a_Bh_signal_0 : dk_at b_Bh_signal 0 t_Bh_signal_0 := dk_start (by decide +kernel)
theorem a_Bh_signal_1 : dk_at b_Bh_signal 1 t_Bh_signal_1 := dk_go 1 a_Bh_signal_0 rfl
theorem a_Bh_signal_4 : dk_at b_Bh_signal 4 t_Bh_signal_4 := dk_go 3 a_Bh_signal_1 rfl
theorem a_Bh_signal_7 : dk_at b_Bh_signal 7 t_Bh_signal_7 := dk_go 3 a_Bh_signal_4 rfl
theorem a_Bh_signal_8 : dk_at b_Bh_signal 8 t_Bh_signal_8 := dk_go 1 a_Bh_signal_7 rfl
theorem a_Bh_signal_11 : dk_at b_Bh_signal 11 t_Bh_signal_11 := dk_go 3 a_Bh_signal_8 rfl
theorem a_Bh_signal_14 : dk_at b_Bh_signal 14 t_Bh_signal_14 := dk_go 3 a_Bh_signal_11 rfl
theorem a_Bh_signal_15 : dk_at b_Bh_signal 15 t_Bh_signal_15 := dk_go 1 a_Bh_signal_14 rfl
theorem a_Bh_signal_16 : dk_at b_Bh_signal 16 t_Bh_signal_16 := dk_go 1 a_Bh_signal_15 rfl
theorem a_Bh_signal_17 : dk_at b_Bh_signal 17 t_Bh_signal_17 := dk_go 1 a_Bh_signal_16 rfl
theorem a_Bh_signal_20 : dk_at b_Bh_signal 20 t_Bh_signal_20 := dk_go 3 a_Bh_signal_17 rfl
theorem a_Bh_signal_23 : dk_at b_Bh_signal 23 t_Bh_signal_23 := dk_go 3 a_Bh_signal_20 rfl
theorem a_Bh_signal_26 : dk_at b_Bh_signal 26 t_Bh_signal_26 := dk_go 3 a_Bh_signal_23 rfl
theorem a_Bh_signal_27 : dk_at b_Bh_signal 27 t_Bh_signal_27 := dk_go 1 a_Bh_signal_26 rfl
theorem a_Bh_signal_28 : dk_at b_Bh_signal 28 t_Bh_signal_28 := dk_go 1 a_Bh_signal_27 rfl
theorem a_Bh_signal_29 : dk_at b_Bh_signal 29 t_Bh_signal_29 := dk_go 1 a_Bh_signal_28 rfl
theorem a_Bh_signal_30 : dk_at b_Bh_signal 30 t_Bh_signal_30 := dk_go 1 a_Bh_signal_29 rfl
theorem d_Bh_signal_0 : decode b_Bh_signal 0 = .ok (.aload_n 0, 1) := dk_0 a_Bh_signal_0 (dko_42 _)
theorem d_Bh_signal_1 : decode b_Bh_signal 1 = .ok (.getfield 62, 3) := dk_U2 a_Bh_signal_1 (dko_180 _) rfl
theorem d_Bh_signal_4 : decode b_Bh_signal 4 = .ok (.getfield 183, 3) := dk_U2 a_Bh_signal_4 (dko_180 _) rfl
theorem d_Bh_signal_7 : decode b_Bh_signal 7 = .ok (.iload_n 1, 1) := dk_0 a_Bh_signal_7 (dko_27 _)
theorem d_Bh_signal_8 : decode b_Bh_signal 8 = .ok (.invokevirtual 238, 3) := dk_U2 a_Bh_signal_8 (dko_182 _) rfl
theorem d_Bh_signal_11 : decode b_Bh_signal 11 = .ok (.ifCond .ne 5, 3) := dk_S2 a_Bh_signal_11 (dko_154 _) (by decide +kernel)
theorem d_Bh_signal_14 : decode b_Bh_signal 14 = .ok (.iconst 0, 1) := dk_0 a_Bh_signal_14 (dko_3 _)
theorem d_Bh_signal_15 : decode b_Bh_signal 15 = .ok (.ireturn, 1) := dk_0 a_Bh_signal_15 (dko_172 _)
theorem d_Bh_signal_16 : decode b_Bh_signal 16 = .ok (.aload_n 0, 1) := dk_0 a_Bh_signal_16 (dko_42 _)
theorem d_Bh_signal_17 : decode b_Bh_signal 17 = .ok (.getfield 62, 3) := dk_U2 a_Bh_signal_17 (dko_180 _) rfl
theorem d_Bh_signal_20 : decode b_Bh_signal 20 = .ok (.getfield 183, 3) := dk_U2 a_Bh_signal_20 (dko_180 _) rfl
theorem d_Bh_signal_23 : decode b_Bh_signal 23 = .ok (.getfield 247, 3) := dk_U2 a_Bh_signal_23 (dko_180 _) rfl
theorem d_Bh_signal_26 : decode b_Bh_signal 26 = .ok (.iload_n 1, 1) := dk_0 a_Bh_signal_26 (dko_27 _)
theorem d_Bh_signal_27 : decode b_Bh_signal 27 = .ok (.lload_n 2, 1) := dk_0 a_Bh_signal_27 (dko_32 _)
theorem d_Bh_signal_28 : decode b_Bh_signal 28 = .ok (.lastore, 1) := dk_0 a_Bh_signal_28 (dko_80 _)
theorem d_Bh_signal_29 : decode b_Bh_signal 29 = .ok (.iconst 1, 1) := dk_0 a_Bh_signal_29 (dko_4 _)
theorem d_Bh_signal_30 : decode b_Bh_signal 30 = .ok (.ireturn, 1) := dk_0 a_Bh_signal_30 (dko_172 _)
set_option maxHeartbeats 4000000 in
set_option maxRecDepth 100000 in
theorem ok_Bh_signal (pc : Nat) : OpS mt mi_Bh_signal pc (cs_Bh_signal pc) := (os_n (os_n (os_n (os_n (os_l (so_aload_n d_Bh_signal_0 rfl)) (os_l (so_get (C := R_Bh) (T := F_Bh) (N := 16) (j := 6) in_Bh rfl (by decide) mw_690 d_Bh_signal_1))) (os_n (os_l (so_get (C := R_Ru) (T := F_Ru) (N := 21) (j := 3) in_Ru rfl (by decide) mw_515 d_Bh_signal_4)) (os_l (so_iload_n d_Bh_signal_7 rfl)))) (os_n (os_n (os_l (so_callV (iv := mi_Pr_isSignal) rfl rfl rfl mw_1158 mw_1159 mw_1160 mw_12 mw_1161 ⟨by decide +kernel, by decide +kernel, by decide +kernel⟩ (by decide) d_Bh_signal_8)) (os_l (so_ifne d_Bh_signal_11 (by decide)))) (os_n (os_l (so_iconst d_Bh_signal_14 (by decide))) (os_l (so_zreturn rfl d_Bh_signal_15))))) (os_n (os_n (os_n (os_l (so_aload_n d_Bh_signal_16 rfl)) (os_l (so_get (C := R_Bh) (T := F_Bh) (N := 16) (j := 6) in_Bh rfl (by decide) mw_690 d_Bh_signal_17))) (os_n (os_l (so_get (C := R_Ru) (T := F_Ru) (N := 21) (j := 3) in_Ru rfl (by decide) mw_515 d_Bh_signal_20)) (os_l (so_get (C := R_Pr) (T := F_Pr) (N := 18) (j := 15) in_Pr rfl (by decide) mw_468 d_Bh_signal_23)))) (os_n (os_n (os_l (so_iload_n d_Bh_signal_26 rfl)) (os_l (so_lload_n d_Bh_signal_27 rfl))) (os_n (os_l (so_lastore d_Bh_signal_28)) (os_n (os_l (so_iconst d_Bh_signal_29 (by decide))) (os_l (so_zreturn rfl d_Bh_signal_30)))))))
abbrev t_Bh_bind_14 : List UInt8 := 172 :: []
abbrev t_Bh_bind_11 : List UInt8 := 182 :: 0 :: 250 :: t_Bh_bind_14
abbrev t_Bh_bind_9 : List UInt8 := 21 :: 5 :: t_Bh_bind_11
abbrev t_Bh_bind_7 : List UInt8 := 21 :: 4 :: t_Bh_bind_9
abbrev t_Bh_bind_6 : List UInt8 := 29 :: t_Bh_bind_7
abbrev t_Bh_bind_5 : List UInt8 := 28 :: t_Bh_bind_6
abbrev t_Bh_bind_4 : List UInt8 := 27 :: t_Bh_bind_5
abbrev t_Bh_bind_1 : List UInt8 := 180 :: 0 :: 53 :: t_Bh_bind_4
abbrev t_Bh_bind_0 : List UInt8 := 42 :: t_Bh_bind_1
theorem a_Bh_bind_0 : dk_at b_Bh_bind 0 t_Bh_bind_0 := dk_start (by decide +kernel)
theorem a_Bh_bind_1 : dk_at b_Bh_bind 1 t_Bh_bind_1 := dk_go 1 a_Bh_bind_0 rfl
theorem a_Bh_bind_4 : dk_at b_Bh_bind 4 t_Bh_bind_4 := dk_go 3 a_Bh_bind_1 rfl
theorem a_Bh_bind_5 : dk_at b_Bh_bind 5 t_Bh_bind_5 := dk_go 1 a_Bh_bind_4 rfl
theorem a_Bh_bind_6 : dk_at b_Bh_bind 6 t_Bh_bind_6 := dk_go 1 a_Bh_bind_5 rfl
theorem a_Bh_bind_7 : dk_at b_Bh_bind 7 t_Bh_bind_7 := dk_go 1 a_Bh_bind_6 rfl
theorem a_Bh_bind_9 : dk_at b_Bh_bind 9 t_Bh_bind_9 := dk_go 2 a_Bh_bind_7 rfl
theorem a_Bh_bind_11 : dk_at b_Bh_bind 11 t_Bh_bind_11 := dk_go 2 a_Bh_bind_9 rfl
theorem a_Bh_bind_14 : dk_at b_Bh_bind 14 t_Bh_bind_14 := dk_go 3 a_Bh_bind_11 rfl
theorem d_Bh_bind_0 : decode b_Bh_bind 0 = .ok (.aload_n 0, 1) := dk_0 a_Bh_bind_0 (dko_42 _)
theorem d_Bh_bind_1 : decode b_Bh_bind 1 = .ok (.getfield 53, 3) := dk_U2 a_Bh_bind_1 (dko_180 _) rfl
theorem d_Bh_bind_4 : decode b_Bh_bind 4 = .ok (.iload_n 1, 1) := dk_0 a_Bh_bind_4 (dko_27 _)
theorem d_Bh_bind_5 : decode b_Bh_bind 5 = .ok (.iload_n 2, 1) := dk_0 a_Bh_bind_5 (dko_28 _)
theorem d_Bh_bind_6 : decode b_Bh_bind 6 = .ok (.iload_n 3, 1) := dk_0 a_Bh_bind_6 (dko_29 _)
theorem d_Bh_bind_7 : decode b_Bh_bind 7 = .ok (.iload 4, 2) := dk_U1 a_Bh_bind_7 (dko_21 _) rfl
theorem d_Bh_bind_9 : decode b_Bh_bind 9 = .ok (.iload 5, 2) := dk_U1 a_Bh_bind_9 (dko_21 _) rfl
theorem d_Bh_bind_11 : decode b_Bh_bind 11 = .ok (.invokevirtual 250, 3) := dk_U2 a_Bh_bind_11 (dko_182 _) rfl
theorem d_Bh_bind_14 : decode b_Bh_bind 14 = .ok (.ireturn, 1) := dk_0 a_Bh_bind_14 (dko_172 _)
set_option maxHeartbeats 4000000 in
set_option maxRecDepth 100000 in
theorem ok_Bh_bind (pc : Nat) : OpS mt mi_Bh_bind pc (cs_Bh_bind pc) := (os_n (os_n (os_n (os_l (so_aload_n d_Bh_bind_0 rfl)) (os_l (so_get (C := R_Bh) (T := F_Bh) (N := 16) (j := 5) in_Bh rfl (by decide) mw_689 d_Bh_bind_1))) (os_n (os_l (so_iload_n d_Bh_bind_4 rfl)) (os_l (so_iload_n d_Bh_bind_5 rfl)))) (os_n (os_n (os_l (so_iload_n d_Bh_bind_6 rfl)) (os_l (so_iload d_Bh_bind_7))) (os_n (os_l (so_iload d_Bh_bind_9)) (os_n (os_l (so_callV (iv := mi_Ac_tie) rfl rfl rfl mw_1174 mw_1175 mw_1176 mw_9 mw_1177 ⟨by decide +kernel, by decide +kernel, by decide +kernel⟩ (by decide) d_Bh_bind_11)) (os_l (so_zreturn rfl d_Bh_bind_14))))))
abbrev t_Bh_act_42 : List UInt8 := 172 :: []
abbrev t_Bh_act_41 : List UInt8 := 28 :: t_Bh_act_42
abbrev t_Bh_act_38 : List UInt8 := 182 :: 1 :: 8 :: t_Bh_act_41
abbrev t_Bh_act_37 : List UInt8 := 96 :: t_Bh_act_38
abbrev t_Bh_act_36 : List UInt8 := 28 :: t_Bh_act_37
abbrev t_Bh_act_34 : List UInt8 := 16 :: 10 :: t_Bh_act_36
abbrev t_Bh_act_33 : List UInt8 := 2 :: t_Bh_act_34
abbrev t_Bh_act_30 : List UInt8 := 180 :: 1 :: 5 :: t_Bh_act_33
abbrev t_Bh_act_27 : List UInt8 := 180 :: 0 :: 26 :: t_Bh_act_30
abbrev t_Bh_act_26 : List UInt8 := 42 :: t_Bh_act_27
abbrev t_Bh_act_23 : List UInt8 := 180 :: 0 :: 19 :: t_Bh_act_26
abbrev t_Bh_act_22 : List UInt8 := 42 :: t_Bh_act_23
abbrev t_Bh_act_19 : List UInt8 := 158 :: 0 :: 22 :: t_Bh_act_22
abbrev t_Bh_act_18 : List UInt8 := 28 :: t_Bh_act_19
abbrev t_Bh_act_17 : List UInt8 := 61 :: t_Bh_act_18
abbrev t_Bh_act_14 : List UInt8 := 182 :: 1 :: 1 :: t_Bh_act_17
abbrev t_Bh_act_13 : List UInt8 := 27 :: t_Bh_act_14
abbrev t_Bh_act_10 : List UInt8 := 180 :: 0 :: 53 :: t_Bh_act_13
abbrev t_Bh_act_9 : List UInt8 := 42 :: t_Bh_act_10
abbrev t_Bh_act_8 : List UInt8 := 172 :: t_Bh_act_9
abbrev t_Bh_act_7 : List UInt8 := 2 :: t_Bh_act_8
abbrev t_Bh_act_4 : List UInt8 := 154 :: 0 :: 5 :: t_Bh_act_7
abbrev t_Bh_act_1 : List UInt8 := 184 :: 0 :: 254 :: t_Bh_act_4
abbrev t_Bh_act_0 : List UInt8 := 27 :: t_Bh_act_1
theorem a_Bh_act_0 : dk_at b_Bh_act 0 t_Bh_act_0 := dk_start (by decide +kernel)
theorem a_Bh_act_1 : dk_at b_Bh_act 1 t_Bh_act_1 := dk_go 1 a_Bh_act_0 rfl
theorem a_Bh_act_4 : dk_at b_Bh_act 4 t_Bh_act_4 := dk_go 3 a_Bh_act_1 rfl
theorem a_Bh_act_7 : dk_at b_Bh_act 7 t_Bh_act_7 := dk_go 3 a_Bh_act_4 rfl
theorem a_Bh_act_8 : dk_at b_Bh_act 8 t_Bh_act_8 := dk_go 1 a_Bh_act_7 rfl
theorem a_Bh_act_9 : dk_at b_Bh_act 9 t_Bh_act_9 := dk_go 1 a_Bh_act_8 rfl
theorem a_Bh_act_10 : dk_at b_Bh_act 10 t_Bh_act_10 := dk_go 1 a_Bh_act_9 rfl
theorem a_Bh_act_13 : dk_at b_Bh_act 13 t_Bh_act_13 := dk_go 3 a_Bh_act_10 rfl
theorem a_Bh_act_14 : dk_at b_Bh_act 14 t_Bh_act_14 := dk_go 1 a_Bh_act_13 rfl
theorem a_Bh_act_17 : dk_at b_Bh_act 17 t_Bh_act_17 := dk_go 3 a_Bh_act_14 rfl
theorem a_Bh_act_18 : dk_at b_Bh_act 18 t_Bh_act_18 := dk_go 1 a_Bh_act_17 rfl
theorem a_Bh_act_19 : dk_at b_Bh_act 19 t_Bh_act_19 := dk_go 1 a_Bh_act_18 rfl
theorem a_Bh_act_22 : dk_at b_Bh_act 22 t_Bh_act_22 := dk_go 3 a_Bh_act_19 rfl
theorem a_Bh_act_23 : dk_at b_Bh_act 23 t_Bh_act_23 := dk_go 1 a_Bh_act_22 rfl
theorem a_Bh_act_26 : dk_at b_Bh_act 26 t_Bh_act_26 := dk_go 3 a_Bh_act_23 rfl
theorem a_Bh_act_27 : dk_at b_Bh_act 27 t_Bh_act_27 := dk_go 1 a_Bh_act_26 rfl
theorem a_Bh_act_30 : dk_at b_Bh_act 30 t_Bh_act_30 := dk_go 3 a_Bh_act_27 rfl
theorem a_Bh_act_33 : dk_at b_Bh_act 33 t_Bh_act_33 := dk_go 3 a_Bh_act_30 rfl
theorem a_Bh_act_34 : dk_at b_Bh_act 34 t_Bh_act_34 := dk_go 1 a_Bh_act_33 rfl
theorem a_Bh_act_36 : dk_at b_Bh_act 36 t_Bh_act_36 := dk_go 2 a_Bh_act_34 rfl
theorem a_Bh_act_37 : dk_at b_Bh_act 37 t_Bh_act_37 := dk_go 1 a_Bh_act_36 rfl
theorem a_Bh_act_38 : dk_at b_Bh_act 38 t_Bh_act_38 := dk_go 1 a_Bh_act_37 rfl
theorem a_Bh_act_41 : dk_at b_Bh_act 41 t_Bh_act_41 := dk_go 3 a_Bh_act_38 rfl
theorem a_Bh_act_42 : dk_at b_Bh_act 42 t_Bh_act_42 := dk_go 1 a_Bh_act_41 rfl
theorem d_Bh_act_0 : decode b_Bh_act 0 = .ok (.iload_n 1, 1) := dk_0 a_Bh_act_0 (dko_27 _)
theorem d_Bh_act_1 : decode b_Bh_act 1 = .ok (.invokestatic 254, 3) := dk_U2 a_Bh_act_1 (dko_184 _) rfl
theorem d_Bh_act_4 : decode b_Bh_act 4 = .ok (.ifCond .ne 5, 3) := dk_S2 a_Bh_act_4 (dko_154 _) (by decide +kernel)
theorem d_Bh_act_7 : decode b_Bh_act 7 = .ok (.iconst (-1), 1) := dk_0 a_Bh_act_7 (dko_2 _)
theorem d_Bh_act_8 : decode b_Bh_act 8 = .ok (.ireturn, 1) := dk_0 a_Bh_act_8 (dko_172 _)
theorem d_Bh_act_9 : decode b_Bh_act 9 = .ok (.aload_n 0, 1) := dk_0 a_Bh_act_9 (dko_42 _)
theorem d_Bh_act_10 : decode b_Bh_act 10 = .ok (.getfield 53, 3) := dk_U2 a_Bh_act_10 (dko_180 _) rfl
theorem d_Bh_act_13 : decode b_Bh_act 13 = .ok (.iload_n 1, 1) := dk_0 a_Bh_act_13 (dko_27 _)
theorem d_Bh_act_14 : decode b_Bh_act 14 = .ok (.invokevirtual 257, 3) := dk_U2 a_Bh_act_14 (dko_182 _) rfl
theorem d_Bh_act_17 : decode b_Bh_act 17 = .ok (.istore_n 2, 1) := dk_0 a_Bh_act_17 (dko_61 _)
theorem d_Bh_act_18 : decode b_Bh_act 18 = .ok (.iload_n 2, 1) := dk_0 a_Bh_act_18 (dko_28 _)
theorem d_Bh_act_19 : decode b_Bh_act 19 = .ok (.ifCond .le 22, 3) := dk_S2 a_Bh_act_19 (dko_158 _) (by decide +kernel)
theorem d_Bh_act_22 : decode b_Bh_act 22 = .ok (.aload_n 0, 1) := dk_0 a_Bh_act_22 (dko_42 _)
theorem d_Bh_act_23 : decode b_Bh_act 23 = .ok (.getfield 19, 3) := dk_U2 a_Bh_act_23 (dko_180 _) rfl
theorem d_Bh_act_26 : decode b_Bh_act 26 = .ok (.aload_n 0, 1) := dk_0 a_Bh_act_26 (dko_42 _)
theorem d_Bh_act_27 : decode b_Bh_act 27 = .ok (.getfield 26, 3) := dk_U2 a_Bh_act_27 (dko_180 _) rfl
theorem d_Bh_act_30 : decode b_Bh_act 30 = .ok (.getfield 261, 3) := dk_U2 a_Bh_act_30 (dko_180 _) rfl
theorem d_Bh_act_33 : decode b_Bh_act 33 = .ok (.iconst (-1), 1) := dk_0 a_Bh_act_33 (dko_2 _)
theorem d_Bh_act_34 : decode b_Bh_act 34 = .ok (.bipush 10, 2) := dk_S1 a_Bh_act_34 (dko_16 _) (by decide +kernel)
theorem d_Bh_act_36 : decode b_Bh_act 36 = .ok (.iload_n 2, 1) := dk_0 a_Bh_act_36 (dko_28 _)
theorem d_Bh_act_37 : decode b_Bh_act 37 = .ok (.iadd, 1) := dk_0 a_Bh_act_37 (dko_96 _)
theorem d_Bh_act_38 : decode b_Bh_act 38 = .ok (.invokevirtual 264, 3) := dk_U2 a_Bh_act_38 (dko_182 _) rfl
theorem d_Bh_act_41 : decode b_Bh_act 41 = .ok (.iload_n 2, 1) := dk_0 a_Bh_act_41 (dko_28 _)
theorem d_Bh_act_42 : decode b_Bh_act 42 = .ok (.ireturn, 1) := dk_0 a_Bh_act_42 (dko_172 _)
set_option maxHeartbeats 4000000 in
set_option maxRecDepth 100000 in
theorem ok_Bh_act (pc : Nat) : OpS mt mi_Bh_act pc (cs_Bh_act pc) := (os_n (os_n (os_n (os_n (os_l (so_iload_n d_Bh_act_0 rfl)) (os_n (os_l (so_callS (iv := mi_Ac_isAct) rfl mw_1185 mw_1179 mw_9 mw_1180 ⟨by decide +kernel, by decide +kernel, by decide +kernel⟩ (by decide) d_Bh_act_1)) (os_l (so_ifne d_Bh_act_4 (by decide))))) (os_n (os_l (so_iconst d_Bh_act_7 (by decide))) (os_n (os_l (so_ireturn rfl d_Bh_act_8)) (os_l (so_aload_n d_Bh_act_9 rfl))))) (os_n (os_n (os_l (so_get (C := R_Bh) (T := F_Bh) (N := 16) (j := 5) in_Bh rfl (by decide) mw_689 d_Bh_act_10)) (os_n (os_l (so_iload_n d_Bh_act_13 rfl)) (os_l (so_callV (iv := mi_Ac_perform) rfl rfl rfl mw_1186 mw_1187 mw_1188 mw_9 mw_1189 ⟨by decide +kernel, by decide +kernel, by decide +kernel⟩ (by decide) d_Bh_act_14)))) (os_n (os_l (so_istore_n d_Bh_act_17 rfl (by decide))) (os_n (os_l (so_iload_n d_Bh_act_18 rfl)) (os_l (so_ifle d_Bh_act_19 (by decide))))))) (os_n (os_n (os_n (os_l (so_aload_n d_Bh_act_22 rfl)) (os_n (os_l (so_get (C := R_Bh) (T := F_Bh) (N := 16) (j := 1) in_Bh rfl (by decide) mw_685 d_Bh_act_23)) (os_l (so_aload_n d_Bh_act_26 rfl)))) (os_n (os_l (so_get (C := R_Bh) (T := F_Bh) (N := 16) (j := 2) in_Bh rfl (by decide) mw_686 d_Bh_act_27)) (os_n (os_l (so_get (C := R_St) (T := F_St) (N := 12) (j := 1) in_St rfl (by decide) mw_156 d_Bh_act_30)) (os_l (so_iconst d_Bh_act_33 (by decide)))))) (os_n (os_n (os_l (so_bipush d_Bh_act_34 (by decide))) (os_n (os_l (so_iload_n d_Bh_act_36 rfl)) (os_l (so_iadd d_Bh_act_37)))) (os_n (os_l (so_callV (iv := mi_Al_add) rfl rfl rfl mw_1289 mw_1290 mw_1291 mw_3 mw_1292 ⟨by decide +kernel, by decide +kernel, by decide +kernel⟩ (by decide) d_Bh_act_38)) (os_n (os_l (so_iload_n d_Bh_act_41 rfl)) (os_l (so_ireturn rfl d_Bh_act_42)))))))
abbrev t_Bh_start_58 : List UInt8 := 172 :: []
abbrev t_Bh_start_57 : List UInt8 := 4 :: t_Bh_start_58
abbrev t_Bh_start_54 : List UInt8 := 182 :: 1 :: 21 :: t_Bh_start_57
abbrev t_Bh_start_51 : List UInt8 := 180 :: 0 :: 62 :: t_Bh_start_54
abbrev t_Bh_start_50 : List UInt8 := 42 :: t_Bh_start_51
abbrev t_Bh_start_47 : List UInt8 := 182 :: 1 :: 18 :: t_Bh_start_50
abbrev t_Bh_start_44 : List UInt8 := 180 :: 0 :: 183 :: t_Bh_start_47
abbrev t_Bh_start_41 : List UInt8 := 180 :: 0 :: 62 :: t_Bh_start_44
abbrev t_Bh_start_40 : List UInt8 := 42 :: t_Bh_start_41
abbrev t_Bh_start_37 : List UInt8 := 181 :: 1 :: 17 :: t_Bh_start_40
abbrev t_Bh_start_36 : List UInt8 := 3 :: t_Bh_start_37
abbrev t_Bh_start_33 : List UInt8 := 180 :: 0 :: 19 :: t_Bh_start_36
abbrev t_Bh_start_32 : List UInt8 := 42 :: t_Bh_start_33
abbrev t_Bh_start_29 : List UInt8 := 182 :: 0 :: 190 :: t_Bh_start_32
abbrev t_Bh_start_26 : List UInt8 := 180 :: 0 :: 35 :: t_Bh_start_29
abbrev t_Bh_start_25 : List UInt8 := 42 :: t_Bh_start_26
abbrev t_Bh_start_22 : List UInt8 := 153 :: 0 :: 10 :: t_Bh_start_25
abbrev t_Bh_start_19 : List UInt8 := 182 :: 1 :: 14 :: t_Bh_start_22
abbrev t_Bh_start_16 : List UInt8 := 180 :: 0 :: 62 :: t_Bh_start_19
abbrev t_Bh_start_15 : List UInt8 := 42 :: t_Bh_start_16
abbrev t_Bh_start_14 : List UInt8 := 172 :: t_Bh_start_15
abbrev t_Bh_start_13 : List UInt8 := 3 :: t_Bh_start_14
abbrev t_Bh_start_10 : List UInt8 := 156 :: 0 :: 5 :: t_Bh_start_13
abbrev t_Bh_start_7 : List UInt8 := 180 :: 1 :: 11 :: t_Bh_start_10
abbrev t_Bh_start_4 : List UInt8 := 180 :: 0 :: 183 :: t_Bh_start_7
abbrev t_Bh_start_1 : List UInt8 := 180 :: 0 :: 62 :: t_Bh_start_4
abbrev t_Bh_start_0 : List UInt8 := 42 :: t_Bh_start_1
theorem a_Bh_start_0 : dk_at b_Bh_start 0 t_Bh_start_0 := dk_start (by decide +kernel)
theorem a_Bh_start_1 : dk_at b_Bh_start 1 t_Bh_start_1 := dk_go 1 a_Bh_start_0 rfl
theorem a_Bh_start_4 : dk_at b_Bh_start 4 t_Bh_start_4 := dk_go 3 a_Bh_start_1 rfl
theorem a_Bh_start_7 : dk_at b_Bh_start 7 t_Bh_start_7 := dk_go 3 a_Bh_start_4 rfl
theorem a_Bh_start_10 : dk_at b_Bh_start 10 t_Bh_start_10 := dk_go 3 a_Bh_start_7 rfl
theorem a_Bh_start_13 : dk_at b_Bh_start 13 t_Bh_start_13 := dk_go 3 a_Bh_start_10 rfl
theorem a_Bh_start_14 : dk_at b_Bh_start 14 t_Bh_start_14 := dk_go 1 a_Bh_start_13 rfl
theorem a_Bh_start_15 : dk_at b_Bh_start 15 t_Bh_start_15 := dk_go 1 a_Bh_start_14 rfl
theorem a_Bh_start_16 : dk_at b_Bh_start 16 t_Bh_start_16 := dk_go 1 a_Bh_start_15 rfl
theorem a_Bh_start_19 : dk_at b_Bh_start 19 t_Bh_start_19 := dk_go 3 a_Bh_start_16 rfl
theorem a_Bh_start_22 : dk_at b_Bh_start 22 t_Bh_start_22 := dk_go 3 a_Bh_start_19 rfl
theorem a_Bh_start_25 : dk_at b_Bh_start 25 t_Bh_start_25 := dk_go 3 a_Bh_start_22 rfl
theorem a_Bh_start_26 : dk_at b_Bh_start 26 t_Bh_start_26 := dk_go 1 a_Bh_start_25 rfl
theorem a_Bh_start_29 : dk_at b_Bh_start 29 t_Bh_start_29 := dk_go 3 a_Bh_start_26 rfl
theorem a_Bh_start_32 : dk_at b_Bh_start 32 t_Bh_start_32 := dk_go 3 a_Bh_start_29 rfl
theorem a_Bh_start_33 : dk_at b_Bh_start 33 t_Bh_start_33 := dk_go 1 a_Bh_start_32 rfl
theorem a_Bh_start_36 : dk_at b_Bh_start 36 t_Bh_start_36 := dk_go 3 a_Bh_start_33 rfl
theorem a_Bh_start_37 : dk_at b_Bh_start 37 t_Bh_start_37 := dk_go 1 a_Bh_start_36 rfl
theorem a_Bh_start_40 : dk_at b_Bh_start 40 t_Bh_start_40 := dk_go 3 a_Bh_start_37 rfl
theorem a_Bh_start_41 : dk_at b_Bh_start 41 t_Bh_start_41 := dk_go 1 a_Bh_start_40 rfl
theorem a_Bh_start_44 : dk_at b_Bh_start 44 t_Bh_start_44 := dk_go 3 a_Bh_start_41 rfl
theorem a_Bh_start_47 : dk_at b_Bh_start 47 t_Bh_start_47 := dk_go 3 a_Bh_start_44 rfl
theorem a_Bh_start_50 : dk_at b_Bh_start 50 t_Bh_start_50 := dk_go 3 a_Bh_start_47 rfl
theorem a_Bh_start_51 : dk_at b_Bh_start 51 t_Bh_start_51 := dk_go 1 a_Bh_start_50 rfl
theorem a_Bh_start_54 : dk_at b_Bh_start 54 t_Bh_start_54 := dk_go 3 a_Bh_start_51 rfl
theorem a_Bh_start_57 : dk_at b_Bh_start 57 t_Bh_start_57 := dk_go 3 a_Bh_start_54 rfl
theorem a_Bh_start_58 : dk_at b_Bh_start 58 t_Bh_start_58 := dk_go 1 a_Bh_start_57 rfl
theorem d_Bh_start_0 : decode b_Bh_start 0 = .ok (.aload_n 0, 1) := dk_0 a_Bh_start_0 (dko_42 _)
theorem d_Bh_start_1 : decode b_Bh_start 1 = .ok (.getfield 62, 3) := dk_U2 a_Bh_start_1 (dko_180 _) rfl
theorem d_Bh_start_4 : decode b_Bh_start 4 = .ok (.getfield 183, 3) := dk_U2 a_Bh_start_4 (dko_180 _) rfl
theorem d_Bh_start_7 : decode b_Bh_start 7 = .ok (.getfield 267, 3) := dk_U2 a_Bh_start_7 (dko_180 _) rfl
theorem d_Bh_start_10 : decode b_Bh_start 10 = .ok (.ifCond .ge 5, 3) := dk_S2 a_Bh_start_10 (dko_156 _) (by decide +kernel)
theorem d_Bh_start_13 : decode b_Bh_start 13 = .ok (.iconst 0, 1) := dk_0 a_Bh_start_13 (dko_3 _)
theorem d_Bh_start_14 : decode b_Bh_start 14 = .ok (.ireturn, 1) := dk_0 a_Bh_start_14 (dko_172 _)
theorem d_Bh_start_15 : decode b_Bh_start 15 = .ok (.aload_n 0, 1) := dk_0 a_Bh_start_15 (dko_42 _)
theorem d_Bh_start_16 : decode b_Bh_start 16 = .ok (.getfield 62, 3) := dk_U2 a_Bh_start_16 (dko_180 _) rfl
theorem d_Bh_start_19 : decode b_Bh_start 19 = .ok (.invokevirtual 270, 3) := dk_U2 a_Bh_start_19 (dko_182 _) rfl
theorem d_Bh_start_22 : decode b_Bh_start 22 = .ok (.ifCond .eq 10, 3) := dk_S2 a_Bh_start_22 (dko_153 _) (by decide +kernel)
theorem d_Bh_start_25 : decode b_Bh_start 25 = .ok (.aload_n 0, 1) := dk_0 a_Bh_start_25 (dko_42 _)
theorem d_Bh_start_26 : decode b_Bh_start 26 = .ok (.getfield 35, 3) := dk_U2 a_Bh_start_26 (dko_180 _) rfl
theorem d_Bh_start_29 : decode b_Bh_start 29 = .ok (.invokevirtual 190, 3) := dk_U2 a_Bh_start_29 (dko_182 _) rfl
theorem d_Bh_start_32 : decode b_Bh_start 32 = .ok (.aload_n 0, 1) := dk_0 a_Bh_start_32 (dko_42 _)
theorem d_Bh_start_33 : decode b_Bh_start 33 = .ok (.getfield 19, 3) := dk_U2 a_Bh_start_33 (dko_180 _) rfl
theorem d_Bh_start_36 : decode b_Bh_start 36 = .ok (.iconst 0, 1) := dk_0 a_Bh_start_36 (dko_3 _)
theorem d_Bh_start_37 : decode b_Bh_start 37 = .ok (.putfield 273, 3) := dk_U2 a_Bh_start_37 (dko_181 _) rfl
theorem d_Bh_start_40 : decode b_Bh_start 40 = .ok (.aload_n 0, 1) := dk_0 a_Bh_start_40 (dko_42 _)
theorem d_Bh_start_41 : decode b_Bh_start 41 = .ok (.getfield 62, 3) := dk_U2 a_Bh_start_41 (dko_180 _) rfl
theorem d_Bh_start_44 : decode b_Bh_start 44 = .ok (.getfield 183, 3) := dk_U2 a_Bh_start_44 (dko_180 _) rfl
theorem d_Bh_start_47 : decode b_Bh_start 47 = .ok (.invokevirtual 274, 3) := dk_U2 a_Bh_start_47 (dko_182 _) rfl
theorem d_Bh_start_50 : decode b_Bh_start 50 = .ok (.aload_n 0, 1) := dk_0 a_Bh_start_50 (dko_42 _)
theorem d_Bh_start_51 : decode b_Bh_start 51 = .ok (.getfield 62, 3) := dk_U2 a_Bh_start_51 (dko_180 _) rfl
theorem d_Bh_start_54 : decode b_Bh_start 54 = .ok (.invokevirtual 277, 3) := dk_U2 a_Bh_start_54 (dko_182 _) rfl
theorem d_Bh_start_57 : decode b_Bh_start 57 = .ok (.iconst 1, 1) := dk_0 a_Bh_start_57 (dko_4 _)
theorem d_Bh_start_58 : decode b_Bh_start 58 = .ok (.ireturn, 1) := dk_0 a_Bh_start_58 (dko_172 _)
set_option maxHeartbeats 4000000 in
set_option maxRecDepth 100000 in
theorem ok_Bh_start (pc : Nat) : OpS mt mi_Bh_start pc (cs_Bh_start pc) := (os_n (os_n (os_n (os_n (os_l (so_aload_n d_Bh_start_0 rfl)) (os_n (os_l (so_get (C := R_Bh) (T := F_Bh) (N := 16) (j := 6) in_Bh rfl (by decide) mw_690 d_Bh_start_1)) (os_l (so_get (C := R_Ru) (T := F_Ru) (N := 21) (j := 3) in_Ru rfl (by decide) mw_515 d_Bh_start_4)))) (os_n (os_l (so_get (C := R_Pr) (T := F_Pr) (N := 18) (j := 2) in_Pr rfl (by decide) mw_436 d_Bh_start_7)) (os_n (os_l (so_ifge d_Bh_start_10 (by decide))) (os_l (so_iconst d_Bh_start_13 (by decide)))))) (os_n (os_n (os_l (so_zreturn rfl d_Bh_start_14)) (os_n (os_l (so_aload_n d_Bh_start_15 rfl)) (os_l (so_get (C := R_Bh) (T := F_Bh) (N := 16) (j := 6) in_Bh rfl (by decide) mw_690 d_Bh_start_16)))) (os_n (os_n (os_l (so_callV (iv := mi_Ru_isAlive) rfl rfl rfl mw_1297 mw_1298 mw_1299 mw_11 mw_1300 ⟨by decide +kernel, by decide +kernel, by decide +kernel⟩ (by decide) d_Bh_start_19)) (os_l (so_ifeq d_Bh_start_22 (by decide)))) (os_n (os_l (so_aload_n d_Bh_start_25 rfl)) (os_l (so_get (C := R_Bh) (T := F_Bh) (N := 16) (j := 3) in_Bh rfl (by decide) mw_687 d_Bh_start_26)))))) (os_n (os_n (os_n (os_l (so_callV (iv := mi_Wa_closeAll) rfl rfl rfl mw_1063 mw_1064 mw_1065 mw_7 mw_1066 ⟨by decide +kernel, by decide +kernel, by decide +kernel⟩ (by decide) d_Bh_start_29)) (os_n (os_l (so_aload_n d_Bh_start_32 rfl)) (os_l (so_get (C := R_Bh) (T := F_Bh) (N := 16) (j := 1) in_Bh rfl (by decide) mw_685 d_Bh_start_33)))) (os_n (os_n (os_l (so_iconst d_Bh_start_36 (by decide))) (os_l (so_putI (C := R_Al) (T := F_Al) (N := 4) (j := 0) in_Al t_Al_ok n_Al rfl (by decide) mw_61 rfl (by decide +kernel) d_Bh_start_37))) (os_n (os_l (so_aload_n d_Bh_start_40 rfl)) (os_l (so_get (C := R_Bh) (T := F_Bh) (N := 16) (j := 6) in_Bh rfl (by decide) mw_690 d_Bh_start_41))))) (os_n (os_n (os_l (so_get (C := R_Ru) (T := F_Ru) (N := 21) (j := 3) in_Ru rfl (by decide) mw_515 d_Bh_start_44)) (os_n (os_l (so_callV (iv := mi_Pr_clearValues) rfl rfl rfl mw_1301 mw_1302 mw_1303 mw_12 mw_1304 ⟨by decide +kernel, by decide +kernel, by decide +kernel⟩ (by decide) d_Bh_start_47)) (os_l (so_aload_n d_Bh_start_50 rfl)))) (os_n (os_n (os_l (so_get (C := R_Bh) (T := F_Bh) (N := 16) (j := 6) in_Bh rfl (by decide) mw_690 d_Bh_start_51)) (os_l (so_callV (iv := mi_Ru_begin) rfl rfl rfl mw_1310 mw_1311 mw_1312 mw_11 mw_1313 ⟨by decide +kernel, by decide +kernel, by decide +kernel⟩ (by decide) d_Bh_start_54))) (os_n (os_l (so_iconst d_Bh_start_57 (by decide))) (os_l (so_zreturn rfl d_Bh_start_58)))))))
abbrev t_Bh_tick_113 : List UInt8 := 172 :: []
abbrev t_Bh_tick_110 : List UInt8 := 180 :: 0 :: 161 :: t_Bh_tick_113
abbrev t_Bh_tick_107 : List UInt8 := 180 :: 0 :: 62 :: t_Bh_tick_110
abbrev t_Bh_tick_106 : List UInt8 := 42 :: t_Bh_tick_107
abbrev t_Bh_tick_103 : List UInt8 := 167 :: 255 :: 168 :: t_Bh_tick_106
abbrev t_Bh_tick_100 : List UInt8 := 132 :: 2 :: 1 :: t_Bh_tick_103
abbrev t_Bh_tick_97 : List UInt8 := 181 :: 1 :: 5 :: t_Bh_tick_100
abbrev t_Bh_tick_96 : List UInt8 := 96 :: t_Bh_tick_97
abbrev t_Bh_tick_95 : List UInt8 := 4 :: t_Bh_tick_96
abbrev t_Bh_tick_92 : List UInt8 := 180 :: 1 :: 5 :: t_Bh_tick_95
abbrev t_Bh_tick_91 : List UInt8 := 89 :: t_Bh_tick_92
abbrev t_Bh_tick_88 : List UInt8 := 180 :: 0 :: 26 :: t_Bh_tick_91
abbrev t_Bh_tick_87 : List UInt8 := 42 :: t_Bh_tick_88
abbrev t_Bh_tick_84 : List UInt8 := 182 :: 1 :: 33 :: t_Bh_tick_87
abbrev t_Bh_tick_81 : List UInt8 := 180 :: 0 :: 35 :: t_Bh_tick_84
abbrev t_Bh_tick_80 : List UInt8 := 42 :: t_Bh_tick_81
abbrev t_Bh_tick_77 : List UInt8 := 182 :: 0 :: 190 :: t_Bh_tick_80
abbrev t_Bh_tick_74 : List UInt8 := 180 :: 0 :: 35 :: t_Bh_tick_77
abbrev t_Bh_tick_73 : List UInt8 := 42 :: t_Bh_tick_74
abbrev t_Bh_tick_70 : List UInt8 := 160 :: 0 :: 10 :: t_Bh_tick_73
abbrev t_Bh_tick_69 : List UInt8 := 6 :: t_Bh_tick_70
abbrev t_Bh_tick_66 : List UInt8 := 180 :: 0 :: 161 :: t_Bh_tick_69
abbrev t_Bh_tick_63 : List UInt8 := 180 :: 0 :: 62 :: t_Bh_tick_66
abbrev t_Bh_tick_62 : List UInt8 := 42 :: t_Bh_tick_63
abbrev t_Bh_tick_59 : List UInt8 := 159 :: 0 :: 14 :: t_Bh_tick_62
abbrev t_Bh_tick_58 : List UInt8 := 5 :: t_Bh_tick_59
abbrev t_Bh_tick_55 : List UInt8 := 180 :: 0 :: 161 :: t_Bh_tick_58
abbrev t_Bh_tick_52 : List UInt8 := 180 :: 0 :: 62 :: t_Bh_tick_55
abbrev t_Bh_tick_51 : List UInt8 := 42 :: t_Bh_tick_52
abbrev t_Bh_tick_48 : List UInt8 := 182 :: 1 :: 30 :: t_Bh_tick_51
abbrev t_Bh_tick_45 : List UInt8 := 180 :: 0 :: 62 :: t_Bh_tick_48
abbrev t_Bh_tick_44 : List UInt8 := 42 :: t_Bh_tick_45
abbrev t_Bh_tick_41 : List UInt8 := 154 :: 0 :: 39 :: t_Bh_tick_44
abbrev t_Bh_tick_38 : List UInt8 := 180 :: 0 :: 161 :: t_Bh_tick_41
abbrev t_Bh_tick_35 : List UInt8 := 180 :: 0 :: 62 :: t_Bh_tick_38
abbrev t_Bh_tick_34 : List UInt8 := 42 :: t_Bh_tick_35
abbrev t_Bh_tick_31 : List UInt8 := 182 :: 1 :: 27 :: t_Bh_tick_34
abbrev t_Bh_tick_28 : List UInt8 := 180 :: 0 :: 174 :: t_Bh_tick_31
abbrev t_Bh_tick_25 : List UInt8 := 180 :: 0 :: 53 :: t_Bh_tick_28
abbrev t_Bh_tick_24 : List UInt8 := 42 :: t_Bh_tick_25
abbrev t_Bh_tick_21 : List UInt8 := 182 :: 1 :: 24 :: t_Bh_tick_24
abbrev t_Bh_tick_20 : List UInt8 := 42 :: t_Bh_tick_21
abbrev t_Bh_tick_17 : List UInt8 := 162 :: 0 :: 89 :: t_Bh_tick_20
abbrev t_Bh_tick_16 : List UInt8 := 27 :: t_Bh_tick_17
abbrev t_Bh_tick_15 : List UInt8 := 28 :: t_Bh_tick_16
abbrev t_Bh_tick_14 : List UInt8 := 61 :: t_Bh_tick_15
abbrev t_Bh_tick_13 : List UInt8 := 3 :: t_Bh_tick_14
abbrev t_Bh_tick_12 : List UInt8 := 172 :: t_Bh_tick_13
abbrev t_Bh_tick_11 : List UInt8 := 2 :: t_Bh_tick_12
abbrev t_Bh_tick_8 : List UInt8 := 164 :: 0 :: 5 :: t_Bh_tick_11
abbrev t_Bh_tick_5 : List UInt8 := 17 :: 2 :: 88 :: t_Bh_tick_8
abbrev t_Bh_tick_4 : List UInt8 := 27 :: t_Bh_tick_5
abbrev t_Bh_tick_1 : List UInt8 := 155 :: 0 :: 10 :: t_Bh_tick_4
abbrev t_Bh_tick_0 : List UInt8 := 27 :: t_Bh_tick_1
theorem a_Bh_tick_0 : dk_at b_Bh_tick 0 t_Bh_tick_0 := dk_start (by decide +kernel)
theorem a_Bh_tick_1 : dk_at b_Bh_tick 1 t_Bh_tick_1 := dk_go 1 a_Bh_tick_0 rfl
theorem a_Bh_tick_4 : dk_at b_Bh_tick 4 t_Bh_tick_4 := dk_go 3 a_Bh_tick_1 rfl
theorem a_Bh_tick_5 : dk_at b_Bh_tick 5 t_Bh_tick_5 := dk_go 1 a_Bh_tick_4 rfl
theorem a_Bh_tick_8 : dk_at b_Bh_tick 8 t_Bh_tick_8 := dk_go 3 a_Bh_tick_5 rfl
theorem a_Bh_tick_11 : dk_at b_Bh_tick 11 t_Bh_tick_11 := dk_go 3 a_Bh_tick_8 rfl
theorem a_Bh_tick_12 : dk_at b_Bh_tick 12 t_Bh_tick_12 := dk_go 1 a_Bh_tick_11 rfl
theorem a_Bh_tick_13 : dk_at b_Bh_tick 13 t_Bh_tick_13 := dk_go 1 a_Bh_tick_12 rfl
theorem a_Bh_tick_14 : dk_at b_Bh_tick 14 t_Bh_tick_14 := dk_go 1 a_Bh_tick_13 rfl
theorem a_Bh_tick_15 : dk_at b_Bh_tick 15 t_Bh_tick_15 := dk_go 1 a_Bh_tick_14 rfl
theorem a_Bh_tick_16 : dk_at b_Bh_tick 16 t_Bh_tick_16 := dk_go 1 a_Bh_tick_15 rfl
theorem a_Bh_tick_17 : dk_at b_Bh_tick 17 t_Bh_tick_17 := dk_go 1 a_Bh_tick_16 rfl
theorem a_Bh_tick_20 : dk_at b_Bh_tick 20 t_Bh_tick_20 := dk_go 3 a_Bh_tick_17 rfl
theorem a_Bh_tick_21 : dk_at b_Bh_tick 21 t_Bh_tick_21 := dk_go 1 a_Bh_tick_20 rfl
theorem a_Bh_tick_24 : dk_at b_Bh_tick 24 t_Bh_tick_24 := dk_go 3 a_Bh_tick_21 rfl
theorem a_Bh_tick_25 : dk_at b_Bh_tick 25 t_Bh_tick_25 := dk_go 1 a_Bh_tick_24 rfl
theorem a_Bh_tick_28 : dk_at b_Bh_tick 28 t_Bh_tick_28 := dk_go 3 a_Bh_tick_25 rfl
theorem a_Bh_tick_31 : dk_at b_Bh_tick 31 t_Bh_tick_31 := dk_go 3 a_Bh_tick_28 rfl
theorem a_Bh_tick_34 : dk_at b_Bh_tick 34 t_Bh_tick_34 := dk_go 3 a_Bh_tick_31 rfl
theorem a_Bh_tick_35 : dk_at b_Bh_tick 35 t_Bh_tick_35 := dk_go 1 a_Bh_tick_34 rfl
theorem a_Bh_tick_38 : dk_at b_Bh_tick 38 t_Bh_tick_38 := dk_go 3 a_Bh_tick_35 rfl
theorem a_Bh_tick_41 : dk_at b_Bh_tick 41 t_Bh_tick_41 := dk_go 3 a_Bh_tick_38 rfl
theorem a_Bh_tick_44 : dk_at b_Bh_tick 44 t_Bh_tick_44 := dk_go 3 a_Bh_tick_41 rfl
theorem a_Bh_tick_45 : dk_at b_Bh_tick 45 t_Bh_tick_45 := dk_go 1 a_Bh_tick_44 rfl
theorem a_Bh_tick_48 : dk_at b_Bh_tick 48 t_Bh_tick_48 := dk_go 3 a_Bh_tick_45 rfl
theorem a_Bh_tick_51 : dk_at b_Bh_tick 51 t_Bh_tick_51 := dk_go 3 a_Bh_tick_48 rfl
theorem a_Bh_tick_52 : dk_at b_Bh_tick 52 t_Bh_tick_52 := dk_go 1 a_Bh_tick_51 rfl
theorem a_Bh_tick_55 : dk_at b_Bh_tick 55 t_Bh_tick_55 := dk_go 3 a_Bh_tick_52 rfl
theorem a_Bh_tick_58 : dk_at b_Bh_tick 58 t_Bh_tick_58 := dk_go 3 a_Bh_tick_55 rfl
theorem a_Bh_tick_59 : dk_at b_Bh_tick 59 t_Bh_tick_59 := dk_go 1 a_Bh_tick_58 rfl
theorem a_Bh_tick_62 : dk_at b_Bh_tick 62 t_Bh_tick_62 := dk_go 3 a_Bh_tick_59 rfl
theorem a_Bh_tick_63 : dk_at b_Bh_tick 63 t_Bh_tick_63 := dk_go 1 a_Bh_tick_62 rfl
theorem a_Bh_tick_66 : dk_at b_Bh_tick 66 t_Bh_tick_66 := dk_go 3 a_Bh_tick_63 rfl
theorem a_Bh_tick_69 : dk_at b_Bh_tick 69 t_Bh_tick_69 := dk_go 3 a_Bh_tick_66 rfl
theorem a_Bh_tick_70 : dk_at b_Bh_tick 70 t_Bh_tick_70 := dk_go 1 a_Bh_tick_69 rfl
theorem a_Bh_tick_73 : dk_at b_Bh_tick 73 t_Bh_tick_73 := dk_go 3 a_Bh_tick_70 rfl
theorem a_Bh_tick_74 : dk_at b_Bh_tick 74 t_Bh_tick_74 := dk_go 1 a_Bh_tick_73 rfl
theorem a_Bh_tick_77 : dk_at b_Bh_tick 77 t_Bh_tick_77 := dk_go 3 a_Bh_tick_74 rfl
theorem a_Bh_tick_80 : dk_at b_Bh_tick 80 t_Bh_tick_80 := dk_go 3 a_Bh_tick_77 rfl
theorem a_Bh_tick_81 : dk_at b_Bh_tick 81 t_Bh_tick_81 := dk_go 1 a_Bh_tick_80 rfl
theorem a_Bh_tick_84 : dk_at b_Bh_tick 84 t_Bh_tick_84 := dk_go 3 a_Bh_tick_81 rfl
theorem a_Bh_tick_87 : dk_at b_Bh_tick 87 t_Bh_tick_87 := dk_go 3 a_Bh_tick_84 rfl
theorem a_Bh_tick_88 : dk_at b_Bh_tick 88 t_Bh_tick_88 := dk_go 1 a_Bh_tick_87 rfl
theorem a_Bh_tick_91 : dk_at b_Bh_tick 91 t_Bh_tick_91 := dk_go 3 a_Bh_tick_88 rfl
theorem a_Bh_tick_92 : dk_at b_Bh_tick 92 t_Bh_tick_92 := dk_go 1 a_Bh_tick_91 rfl
theorem a_Bh_tick_95 : dk_at b_Bh_tick 95 t_Bh_tick_95 := dk_go 3 a_Bh_tick_92 rfl
theorem a_Bh_tick_96 : dk_at b_Bh_tick 96 t_Bh_tick_96 := dk_go 1 a_Bh_tick_95 rfl
theorem a_Bh_tick_97 : dk_at b_Bh_tick 97 t_Bh_tick_97 := dk_go 1 a_Bh_tick_96 rfl
theorem a_Bh_tick_100 : dk_at b_Bh_tick 100 t_Bh_tick_100 := dk_go 3 a_Bh_tick_97 rfl
theorem a_Bh_tick_103 : dk_at b_Bh_tick 103 t_Bh_tick_103 := dk_go 3 a_Bh_tick_100 rfl
theorem a_Bh_tick_106 : dk_at b_Bh_tick 106 t_Bh_tick_106 := dk_go 3 a_Bh_tick_103 rfl
theorem a_Bh_tick_107 : dk_at b_Bh_tick 107 t_Bh_tick_107 := dk_go 1 a_Bh_tick_106 rfl
theorem a_Bh_tick_110 : dk_at b_Bh_tick 110 t_Bh_tick_110 := dk_go 3 a_Bh_tick_107 rfl
theorem a_Bh_tick_113 : dk_at b_Bh_tick 113 t_Bh_tick_113 := dk_go 3 a_Bh_tick_110 rfl
theorem d_Bh_tick_0 : decode b_Bh_tick 0 = .ok (.iload_n 1, 1) := dk_0 a_Bh_tick_0 (dko_27 _)
theorem d_Bh_tick_1 : decode b_Bh_tick 1 = .ok (.ifCond .lt 10, 3) := dk_S2 a_Bh_tick_1 (dko_155 _) (by decide +kernel)
theorem d_Bh_tick_4 : decode b_Bh_tick 4 = .ok (.iload_n 1, 1) := dk_0 a_Bh_tick_4 (dko_27 _)
theorem d_Bh_tick_5 : decode b_Bh_tick 5 = .ok (.sipush 600, 3) := dk_S2 a_Bh_tick_5 (dko_17 _) (by decide +kernel)
theorem d_Bh_tick_8 : decode b_Bh_tick 8 = .ok (.if_icmp .le 5, 3) := dk_S2 a_Bh_tick_8 (dko_164 _) (by decide +kernel)
theorem d_Bh_tick_11 : decode b_Bh_tick 11 = .ok (.iconst (-1), 1) := dk_0 a_Bh_tick_11 (dko_2 _)
theorem d_Bh_tick_12 : decode b_Bh_tick 12 = .ok (.ireturn, 1) := dk_0 a_Bh_tick_12 (dko_172 _)
theorem d_Bh_tick_13 : decode b_Bh_tick 13 = .ok (.iconst 0, 1) := dk_0 a_Bh_tick_13 (dko_3 _)
theorem d_Bh_tick_14 : decode b_Bh_tick 14 = .ok (.istore_n 2, 1) := dk_0 a_Bh_tick_14 (dko_61 _)
theorem d_Bh_tick_15 : decode b_Bh_tick 15 = .ok (.iload_n 2, 1) := dk_0 a_Bh_tick_15 (dko_28 _)
theorem d_Bh_tick_16 : decode b_Bh_tick 16 = .ok (.iload_n 1, 1) := dk_0 a_Bh_tick_16 (dko_27 _)
theorem d_Bh_tick_17 : decode b_Bh_tick 17 = .ok (.if_icmp .ge 89, 3) := dk_S2 a_Bh_tick_17 (dko_162 _) (by decide +kernel)
theorem d_Bh_tick_20 : decode b_Bh_tick 20 = .ok (.aload_n 0, 1) := dk_0 a_Bh_tick_20 (dko_42 _)
theorem d_Bh_tick_21 : decode b_Bh_tick 21 = .ok (.invokevirtual 280, 3) := dk_U2 a_Bh_tick_21 (dko_182 _) rfl
theorem d_Bh_tick_24 : decode b_Bh_tick 24 = .ok (.aload_n 0, 1) := dk_0 a_Bh_tick_24 (dko_42 _)
theorem d_Bh_tick_25 : decode b_Bh_tick 25 = .ok (.getfield 53, 3) := dk_U2 a_Bh_tick_25 (dko_180 _) rfl
theorem d_Bh_tick_28 : decode b_Bh_tick 28 = .ok (.getfield 174, 3) := dk_U2 a_Bh_tick_28 (dko_180 _) rfl
theorem d_Bh_tick_31 : decode b_Bh_tick 31 = .ok (.invokevirtual 283, 3) := dk_U2 a_Bh_tick_31 (dko_182 _) rfl
theorem d_Bh_tick_34 : decode b_Bh_tick 34 = .ok (.aload_n 0, 1) := dk_0 a_Bh_tick_34 (dko_42 _)
theorem d_Bh_tick_35 : decode b_Bh_tick 35 = .ok (.getfield 62, 3) := dk_U2 a_Bh_tick_35 (dko_180 _) rfl
theorem d_Bh_tick_38 : decode b_Bh_tick 38 = .ok (.getfield 161, 3) := dk_U2 a_Bh_tick_38 (dko_180 _) rfl
theorem d_Bh_tick_41 : decode b_Bh_tick 41 = .ok (.ifCond .ne 39, 3) := dk_S2 a_Bh_tick_41 (dko_154 _) (by decide +kernel)
theorem d_Bh_tick_44 : decode b_Bh_tick 44 = .ok (.aload_n 0, 1) := dk_0 a_Bh_tick_44 (dko_42 _)
theorem d_Bh_tick_45 : decode b_Bh_tick 45 = .ok (.getfield 62, 3) := dk_U2 a_Bh_tick_45 (dko_180 _) rfl
theorem d_Bh_tick_48 : decode b_Bh_tick 48 = .ok (.invokevirtual 286, 3) := dk_U2 a_Bh_tick_48 (dko_182 _) rfl
theorem d_Bh_tick_51 : decode b_Bh_tick 51 = .ok (.aload_n 0, 1) := dk_0 a_Bh_tick_51 (dko_42 _)
theorem d_Bh_tick_52 : decode b_Bh_tick 52 = .ok (.getfield 62, 3) := dk_U2 a_Bh_tick_52 (dko_180 _) rfl
theorem d_Bh_tick_55 : decode b_Bh_tick 55 = .ok (.getfield 161, 3) := dk_U2 a_Bh_tick_55 (dko_180 _) rfl
theorem d_Bh_tick_58 : decode b_Bh_tick 58 = .ok (.iconst 2, 1) := dk_0 a_Bh_tick_58 (dko_5 _)
theorem d_Bh_tick_59 : decode b_Bh_tick 59 = .ok (.if_icmp .eq 14, 3) := dk_S2 a_Bh_tick_59 (dko_159 _) (by decide +kernel)
theorem d_Bh_tick_62 : decode b_Bh_tick 62 = .ok (.aload_n 0, 1) := dk_0 a_Bh_tick_62 (dko_42 _)
theorem d_Bh_tick_63 : decode b_Bh_tick 63 = .ok (.getfield 62, 3) := dk_U2 a_Bh_tick_63 (dko_180 _) rfl
theorem d_Bh_tick_66 : decode b_Bh_tick 66 = .ok (.getfield 161, 3) := dk_U2 a_Bh_tick_66 (dko_180 _) rfl
theorem d_Bh_tick_69 : decode b_Bh_tick 69 = .ok (.iconst 3, 1) := dk_0 a_Bh_tick_69 (dko_6 _)
theorem d_Bh_tick_70 : decode b_Bh_tick 70 = .ok (.if_icmp .ne 10, 3) := dk_S2 a_Bh_tick_70 (dko_160 _) (by decide +kernel)
theorem d_Bh_tick_73 : decode b_Bh_tick 73 = .ok (.aload_n 0, 1) := dk_0 a_Bh_tick_73 (dko_42 _)
theorem d_Bh_tick_74 : decode b_Bh_tick 74 = .ok (.getfield 35, 3) := dk_U2 a_Bh_tick_74 (dko_180 _) rfl
theorem d_Bh_tick_77 : decode b_Bh_tick 77 = .ok (.invokevirtual 190, 3) := dk_U2 a_Bh_tick_77 (dko_182 _) rfl
theorem d_Bh_tick_80 : decode b_Bh_tick 80 = .ok (.aload_n 0, 1) := dk_0 a_Bh_tick_80 (dko_42 _)
theorem d_Bh_tick_81 : decode b_Bh_tick 81 = .ok (.getfield 35, 3) := dk_U2 a_Bh_tick_81 (dko_180 _) rfl
theorem d_Bh_tick_84 : decode b_Bh_tick 84 = .ok (.invokevirtual 289, 3) := dk_U2 a_Bh_tick_84 (dko_182 _) rfl
theorem d_Bh_tick_87 : decode b_Bh_tick 87 = .ok (.aload_n 0, 1) := dk_0 a_Bh_tick_87 (dko_42 _)
theorem d_Bh_tick_88 : decode b_Bh_tick 88 = .ok (.getfield 26, 3) := dk_U2 a_Bh_tick_88 (dko_180 _) rfl
theorem d_Bh_tick_91 : decode b_Bh_tick 91 = .ok (.dup, 1) := dk_0 a_Bh_tick_91 (dko_89 _)
theorem d_Bh_tick_92 : decode b_Bh_tick 92 = .ok (.getfield 261, 3) := dk_U2 a_Bh_tick_92 (dko_180 _) rfl
theorem d_Bh_tick_95 : decode b_Bh_tick 95 = .ok (.iconst 1, 1) := dk_0 a_Bh_tick_95 (dko_4 _)
theorem d_Bh_tick_96 : decode b_Bh_tick 96 = .ok (.iadd, 1) := dk_0 a_Bh_tick_96 (dko_96 _)
theorem d_Bh_tick_97 : decode b_Bh_tick 97 = .ok (.putfield 261, 3) := dk_U2 a_Bh_tick_97 (dko_181 _) rfl
theorem d_Bh_tick_100 : decode b_Bh_tick 100 = .ok (.iinc 2 1, 3) := dk_US a_Bh_tick_100 (dko_132 _) (by decide +kernel)
theorem d_Bh_tick_103 : decode b_Bh_tick 103 = .ok (.goto (-88), 3) := dk_S2 a_Bh_tick_103 (dko_167 _) (by decide +kernel)
theorem d_Bh_tick_106 : decode b_Bh_tick 106 = .ok (.aload_n 0, 1) := dk_0 a_Bh_tick_106 (dko_42 _)
theorem d_Bh_tick_107 : decode b_Bh_tick 107 = .ok (.getfield 62, 3) := dk_U2 a_Bh_tick_107 (dko_180 _) rfl
theorem d_Bh_tick_110 : decode b_Bh_tick 110 = .ok (.getfield 161, 3) := dk_U2 a_Bh_tick_110 (dko_180 _) rfl
theorem d_Bh_tick_113 : decode b_Bh_tick 113 = .ok (.ireturn, 1) := dk_0 a_Bh_tick_113 (dko_172 _)
set_option maxHeartbeats 4000000 in
set_option maxRecDepth 100000 in
theorem ok_Bh_tick (pc : Nat) : OpS mt mi_Bh_tick pc (cs_Bh_tick pc) := (os_n (os_n (os_n (os_n (os_n (os_l (so_iload_n d_Bh_tick_0 rfl)) (os_n (os_l (so_iflt d_Bh_tick_1 (by decide))) (os_l (so_iload_n d_Bh_tick_4 rfl)))) (os_n (os_l (so_sipush d_Bh_tick_5 (by decide))) (os_n (os_l (so_icle d_Bh_tick_8 (by decide))) (os_l (so_iconst d_Bh_tick_11 (by decide)))))) (os_n (os_n (os_l (so_ireturn rfl d_Bh_tick_12)) (os_n (os_l (so_iconst d_Bh_tick_13 (by decide))) (os_l (so_istore_n d_Bh_tick_14 rfl (by decide))))) (os_n (os_n (os_l (so_iload_n d_Bh_tick_15 rfl)) (os_l (so_iload_n d_Bh_tick_16 rfl))) (os_n (os_l (so_icge d_Bh_tick_17 (by decide))) (os_l (so_aload_n d_Bh_tick_20 rfl)))))) (os_n (os_n (os_n (os_l (so_callV (iv := mi_Bh_senseAll) rfl rfl rfl mw_1322 mw_1324 sl_62 mw_1 mw_1325 ⟨by decide +kernel, by decide +kernel, by decide +kernel⟩ (by decide) d_Bh_tick_21)) (os_n (os_l (so_aload_n d_Bh_tick_24 rfl)) (os_l (so_get (C := R_Bh) (T := F_Bh) (N := 16) (j := 5) in_Bh rfl (by decide) mw_689 d_Bh_tick_25)))) (os_n (os_n (os_l (so_get (C := R_Ac) (T := F_Ac) (N := 8) (j := 3) in_Ac rfl (by decide) mw_394 d_Bh_tick_28)) (os_l (so_callV (iv := mi_Ro_countSecond) rfl rfl rfl mw_1335 mw_1336 mw_1337 mw_10 mw_1338 ⟨by decide +kernel, by decide +kernel, by decide +kernel⟩ (by decide) d_Bh_tick_31))) (os_n (os_l (so_aload_n d_Bh_tick_34 rfl)) (os_l (so_get (C := R_Bh) (T := F_Bh) (N := 16) (j := 6) in_Bh rfl (by decide) mw_690 d_Bh_tick_35))))) (os_n (os_n (os_l (so_get (C := R_Ru) (T := F_Ru) (N := 21) (j := 4) in_Ru rfl (by decide) mw_517 d_Bh_tick_38)) (os_n (os_l (so_ifne d_Bh_tick_41 (by decide))) (os_l (so_aload_n d_Bh_tick_44 rfl)))) (os_n (os_n (os_l (so_get (C := R_Bh) (T := F_Bh) (N := 16) (j := 6) in_Bh rfl (by decide) mw_690 d_Bh_tick_45)) (os_l (so_callV (iv := mi_Ru_walk) rfl rfl rfl mw_1341 mw_1342 mw_1343 mw_11 mw_1344 ⟨by decide +kernel, by decide +kernel, by decide +kernel⟩ (by decide) d_Bh_tick_48))) (os_n (os_l (so_aload_n d_Bh_tick_51 rfl)) (os_l (so_get (C := R_Bh) (T := F_Bh) (N := 16) (j := 6) in_Bh rfl (by decide) mw_690 d_Bh_tick_52))))))) (os_n (os_n (os_n (os_n (os_l (so_get (C := R_Ru) (T := F_Ru) (N := 21) (j := 4) in_Ru rfl (by decide) mw_517 d_Bh_tick_55)) (os_n (os_l (so_iconst d_Bh_tick_58 (by decide))) (os_l (so_iceq d_Bh_tick_59 (by decide))))) (os_n (os_l (so_aload_n d_Bh_tick_62 rfl)) (os_n (os_l (so_get (C := R_Bh) (T := F_Bh) (N := 16) (j := 6) in_Bh rfl (by decide) mw_690 d_Bh_tick_63)) (os_l (so_get (C := R_Ru) (T := F_Ru) (N := 21) (j := 4) in_Ru rfl (by decide) mw_517 d_Bh_tick_66))))) (os_n (os_n (os_l (so_iconst d_Bh_tick_69 (by decide))) (os_n (os_l (so_icne d_Bh_tick_70 (by decide))) (os_l (so_aload_n d_Bh_tick_73 rfl)))) (os_n (os_n (os_l (so_get (C := R_Bh) (T := F_Bh) (N := 16) (j := 3) in_Bh rfl (by decide) mw_687 d_Bh_tick_74)) (os_l (so_callV (iv := mi_Wa_closeAll) rfl rfl rfl mw_1063 mw_1064 mw_1065 mw_7 mw_1066 ⟨by decide +kernel, by decide +kernel, by decide +kernel⟩ (by decide) d_Bh_tick_77))) (os_n (os_l (so_aload_n d_Bh_tick_80 rfl)) (os_l (so_get (C := R_Bh) (T := F_Bh) (N := 16) (j := 3) in_Bh rfl (by decide) mw_687 d_Bh_tick_81)))))) (os_n (os_n (os_n (os_l (so_callV (iv := mi_Wa_move) rfl rfl rfl mw_1434 mw_1435 mw_1436 mw_7 mw_1437 ⟨by decide +kernel, by decide +kernel, by decide +kernel⟩ (by decide) d_Bh_tick_84)) (os_n (os_l (so_aload_n d_Bh_tick_87 rfl)) (os_l (so_get (C := R_Bh) (T := F_Bh) (N := 16) (j := 2) in_Bh rfl (by decide) mw_686 d_Bh_tick_88)))) (os_n (os_n (os_l (so_dup d_Bh_tick_91)) (os_l (so_get (C := R_St) (T := F_St) (N := 12) (j := 1) in_St rfl (by decide) mw_156 d_Bh_tick_92))) (os_n (os_l (so_iconst d_Bh_tick_95 (by decide))) (os_l (so_iadd d_Bh_tick_96))))) (os_n (os_n (os_l (so_putI (C := R_St) (T := F_St) (N := 12) (j := 1) in_St t_St_ok n_St rfl (by decide) mw_156 rfl (by decide +kernel) d_Bh_tick_97)) (os_n (os_l (so_iinc d_Bh_tick_100 (by decide) (by decide))) (os_l (so_goto d_Bh_tick_103 (by decide))))) (os_n (os_n (os_l (so_aload_n d_Bh_tick_106 rfl)) (os_l (so_get (C := R_Bh) (T := F_Bh) (N := 16) (j := 6) in_Bh rfl (by decide) mw_690 d_Bh_tick_107))) (os_n (os_l (so_get (C := R_Ru) (T := F_Ru) (N := 21) (j := 4) in_Ru rfl (by decide) mw_517 d_Bh_tick_110)) (os_l (so_ireturn rfl d_Bh_tick_113))))))))
abbrev t_Bh_senseAll_156 : List UInt8 := 177 :: []
abbrev t_Bh_senseAll_153 : List UInt8 := 181 :: 0 :: 177 :: t_Bh_senseAll_156
abbrev t_Bh_senseAll_152 : List UInt8 := 28 :: t_Bh_senseAll_153
abbrev t_Bh_senseAll_149 : List UInt8 := 180 :: 0 :: 174 :: t_Bh_senseAll_152
abbrev t_Bh_senseAll_146 : List UInt8 := 180 :: 0 :: 53 :: t_Bh_senseAll_149
abbrev t_Bh_senseAll_145 : List UInt8 := 42 :: t_Bh_senseAll_146
abbrev t_Bh_senseAll_142 : List UInt8 := 167 :: 255 :: 190 :: t_Bh_senseAll_145
abbrev t_Bh_senseAll_139 : List UInt8 := 132 :: 3 :: 1 :: t_Bh_senseAll_142
abbrev t_Bh_senseAll_138 : List UInt8 := 61 :: t_Bh_senseAll_139
abbrev t_Bh_senseAll_137 : List UInt8 := 128 :: t_Bh_senseAll_138
abbrev t_Bh_senseAll_136 : List UInt8 := 3 :: t_Bh_senseAll_137
abbrev t_Bh_senseAll_133 : List UInt8 := 167 :: 0 :: 4 :: t_Bh_senseAll_136
abbrev t_Bh_senseAll_132 : List UInt8 := 120 :: t_Bh_senseAll_133
abbrev t_Bh_senseAll_131 : List UInt8 := 29 :: t_Bh_senseAll_132
abbrev t_Bh_senseAll_130 : List UInt8 := 4 :: t_Bh_senseAll_131
abbrev t_Bh_senseAll_127 : List UInt8 := 155 :: 0 :: 9 :: t_Bh_senseAll_130
abbrev t_Bh_senseAll_126 : List UInt8 := 148 :: t_Bh_senseAll_127
abbrev t_Bh_senseAll_125 : List UInt8 := 47 :: t_Bh_senseAll_126
abbrev t_Bh_senseAll_124 : List UInt8 := 29 :: t_Bh_senseAll_125
abbrev t_Bh_senseAll_121 : List UInt8 := 180 :: 0 :: 105 :: t_Bh_senseAll_124
abbrev t_Bh_senseAll_120 : List UInt8 := 42 :: t_Bh_senseAll_121
abbrev t_Bh_senseAll_118 : List UInt8 := 22 :: 4 :: t_Bh_senseAll_120
abbrev t_Bh_senseAll_115 : List UInt8 := 155 :: 0 :: 21 :: t_Bh_senseAll_118
abbrev t_Bh_senseAll_114 : List UInt8 := 148 :: t_Bh_senseAll_115
abbrev t_Bh_senseAll_113 : List UInt8 := 9 :: t_Bh_senseAll_114
abbrev t_Bh_senseAll_111 : List UInt8 := 22 :: 4 :: t_Bh_senseAll_113
abbrev t_Bh_senseAll_110 : List UInt8 := 28 :: t_Bh_senseAll_111
abbrev t_Bh_senseAll_108 : List UInt8 := 55 :: 4 :: t_Bh_senseAll_110
abbrev t_Bh_senseAll_105 : List UInt8 := 182 :: 1 :: 42 :: t_Bh_senseAll_108
abbrev t_Bh_senseAll_104 : List UInt8 := 46 :: t_Bh_senseAll_105
abbrev t_Bh_senseAll_103 : List UInt8 := 29 :: t_Bh_senseAll_104
abbrev t_Bh_senseAll_100 : List UInt8 := 180 :: 0 :: 102 :: t_Bh_senseAll_103
abbrev t_Bh_senseAll_99 : List UInt8 := 42 :: t_Bh_senseAll_100
abbrev t_Bh_senseAll_98 : List UInt8 := 46 :: t_Bh_senseAll_99
abbrev t_Bh_senseAll_97 : List UInt8 := 29 :: t_Bh_senseAll_98
abbrev t_Bh_senseAll_94 : List UInt8 := 180 :: 0 :: 98 :: t_Bh_senseAll_97
abbrev t_Bh_senseAll_93 : List UInt8 := 42 :: t_Bh_senseAll_94
abbrev t_Bh_senseAll_92 : List UInt8 := 42 :: t_Bh_senseAll_93
abbrev t_Bh_senseAll_89 : List UInt8 := 162 :: 0 :: 50 :: t_Bh_senseAll_92
abbrev t_Bh_senseAll_88 : List UInt8 := 8 :: t_Bh_senseAll_89
abbrev t_Bh_senseAll_87 : List UInt8 := 46 :: t_Bh_senseAll_88
abbrev t_Bh_senseAll_86 : List UInt8 := 29 :: t_Bh_senseAll_87
abbrev t_Bh_senseAll_83 : List UInt8 := 180 :: 0 :: 98 :: t_Bh_senseAll_86
abbrev t_Bh_senseAll_82 : List UInt8 := 42 :: t_Bh_senseAll_83
abbrev t_Bh_senseAll_79 : List UInt8 := 162 :: 0 :: 66 :: t_Bh_senseAll_82
abbrev t_Bh_senseAll_77 : List UInt8 := 16 :: 16 :: t_Bh_senseAll_79
abbrev t_Bh_senseAll_76 : List UInt8 := 29 :: t_Bh_senseAll_77
abbrev t_Bh_senseAll_75 : List UInt8 := 62 :: t_Bh_senseAll_76
abbrev t_Bh_senseAll_74 : List UInt8 := 3 :: t_Bh_senseAll_75
abbrev t_Bh_senseAll_73 : List UInt8 := 61 :: t_Bh_senseAll_74
abbrev t_Bh_senseAll_72 : List UInt8 := 3 :: t_Bh_senseAll_73
abbrev t_Bh_senseAll_69 : List UInt8 := 167 :: 255 :: 197 :: t_Bh_senseAll_72
abbrev t_Bh_senseAll_66 : List UInt8 := 132 :: 2 :: 1 :: t_Bh_senseAll_69
abbrev t_Bh_senseAll_65 : List UInt8 := 80 :: t_Bh_senseAll_66
abbrev t_Bh_senseAll_64 : List UInt8 := 105 :: t_Bh_senseAll_65
abbrev t_Bh_senseAll_61 : List UInt8 := 20 :: 1 :: 48 :: t_Bh_senseAll_64
abbrev t_Bh_senseAll_60 : List UInt8 := 33 :: t_Bh_senseAll_61
abbrev t_Bh_senseAll_57 : List UInt8 := 167 :: 0 :: 8 :: t_Bh_senseAll_60
abbrev t_Bh_senseAll_54 : List UInt8 := 20 :: 1 :: 46 :: t_Bh_senseAll_57
abbrev t_Bh_senseAll_51 : List UInt8 := 156 :: 0 :: 9 :: t_Bh_senseAll_54
abbrev t_Bh_senseAll_50 : List UInt8 := 148 :: t_Bh_senseAll_51
abbrev t_Bh_senseAll_49 : List UInt8 := 9 :: t_Bh_senseAll_50
abbrev t_Bh_senseAll_48 : List UInt8 := 33 :: t_Bh_senseAll_49
abbrev t_Bh_senseAll_47 : List UInt8 := 28 :: t_Bh_senseAll_48
abbrev t_Bh_senseAll_44 : List UInt8 := 180 :: 0 :: 247 :: t_Bh_senseAll_47
abbrev t_Bh_senseAll_43 : List UInt8 := 43 :: t_Bh_senseAll_44
abbrev t_Bh_senseAll_42 : List UInt8 := 66 :: t_Bh_senseAll_43
abbrev t_Bh_senseAll_39 : List UInt8 := 182 :: 1 :: 42 :: t_Bh_senseAll_42
abbrev t_Bh_senseAll_38 : List UInt8 := 46 :: t_Bh_senseAll_39
abbrev t_Bh_senseAll_37 : List UInt8 := 28 :: t_Bh_senseAll_38
abbrev t_Bh_senseAll_34 : List UInt8 := 180 :: 0 :: 244 :: t_Bh_senseAll_37
abbrev t_Bh_senseAll_33 : List UInt8 := 43 :: t_Bh_senseAll_34
abbrev t_Bh_senseAll_32 : List UInt8 := 46 :: t_Bh_senseAll_33
abbrev t_Bh_senseAll_31 : List UInt8 := 28 :: t_Bh_senseAll_32
abbrev t_Bh_senseAll_28 : List UInt8 := 180 :: 0 :: 241 :: t_Bh_senseAll_31
abbrev t_Bh_senseAll_27 : List UInt8 := 43 :: t_Bh_senseAll_28
abbrev t_Bh_senseAll_26 : List UInt8 := 42 :: t_Bh_senseAll_27
abbrev t_Bh_senseAll_23 : List UInt8 := 153 :: 0 :: 43 :: t_Bh_senseAll_26
abbrev t_Bh_senseAll_20 : List UInt8 := 182 :: 1 :: 39 :: t_Bh_senseAll_23
abbrev t_Bh_senseAll_19 : List UInt8 := 28 :: t_Bh_senseAll_20
abbrev t_Bh_senseAll_18 : List UInt8 := 43 :: t_Bh_senseAll_19
abbrev t_Bh_senseAll_15 : List UInt8 := 162 :: 0 :: 57 :: t_Bh_senseAll_18
abbrev t_Bh_senseAll_12 : List UInt8 := 180 :: 1 :: 36 :: t_Bh_senseAll_15
abbrev t_Bh_senseAll_11 : List UInt8 := 43 :: t_Bh_senseAll_12
abbrev t_Bh_senseAll_10 : List UInt8 := 28 :: t_Bh_senseAll_11
abbrev t_Bh_senseAll_9 : List UInt8 := 61 :: t_Bh_senseAll_10
abbrev t_Bh_senseAll_8 : List UInt8 := 3 :: t_Bh_senseAll_9
abbrev t_Bh_senseAll_7 : List UInt8 := 76 :: t_Bh_senseAll_8
abbrev t_Bh_senseAll_4 : List UInt8 := 180 :: 0 :: 183 :: t_Bh_senseAll_7
abbrev t_Bh_senseAll_1 : List UInt8 := 180 :: 0 :: 62 :: t_Bh_senseAll_4
abbrev t_Bh_senseAll_0 : List UInt8 := 42 :: t_Bh_senseAll_1
theorem a_Bh_senseAll_0 : dk_at b_Bh_senseAll 0 t_Bh_senseAll_0 := dk_start (by decide +kernel)
theorem a_Bh_senseAll_1 : dk_at b_Bh_senseAll 1 t_Bh_senseAll_1 := dk_go 1 a_Bh_senseAll_0 rfl
theorem a_Bh_senseAll_4 : dk_at b_Bh_senseAll 4 t_Bh_senseAll_4 := dk_go 3 a_Bh_senseAll_1 rfl
theorem a_Bh_senseAll_7 : dk_at b_Bh_senseAll 7 t_Bh_senseAll_7 := dk_go 3 a_Bh_senseAll_4 rfl
theorem a_Bh_senseAll_8 : dk_at b_Bh_senseAll 8 t_Bh_senseAll_8 := dk_go 1 a_Bh_senseAll_7 rfl
theorem a_Bh_senseAll_9 : dk_at b_Bh_senseAll 9 t_Bh_senseAll_9 := dk_go 1 a_Bh_senseAll_8 rfl
theorem a_Bh_senseAll_10 : dk_at b_Bh_senseAll 10 t_Bh_senseAll_10 := dk_go 1 a_Bh_senseAll_9 rfl
theorem a_Bh_senseAll_11 : dk_at b_Bh_senseAll 11 t_Bh_senseAll_11 := dk_go 1 a_Bh_senseAll_10 rfl
theorem a_Bh_senseAll_12 : dk_at b_Bh_senseAll 12 t_Bh_senseAll_12 := dk_go 1 a_Bh_senseAll_11 rfl
theorem a_Bh_senseAll_15 : dk_at b_Bh_senseAll 15 t_Bh_senseAll_15 := dk_go 3 a_Bh_senseAll_12 rfl
theorem a_Bh_senseAll_18 : dk_at b_Bh_senseAll 18 t_Bh_senseAll_18 := dk_go 3 a_Bh_senseAll_15 rfl
theorem a_Bh_senseAll_19 : dk_at b_Bh_senseAll 19 t_Bh_senseAll_19 := dk_go 1 a_Bh_senseAll_18 rfl
theorem a_Bh_senseAll_20 : dk_at b_Bh_senseAll 20 t_Bh_senseAll_20 := dk_go 1 a_Bh_senseAll_19 rfl
theorem a_Bh_senseAll_23 : dk_at b_Bh_senseAll 23 t_Bh_senseAll_23 := dk_go 3 a_Bh_senseAll_20 rfl
theorem a_Bh_senseAll_26 : dk_at b_Bh_senseAll 26 t_Bh_senseAll_26 := dk_go 3 a_Bh_senseAll_23 rfl
theorem a_Bh_senseAll_27 : dk_at b_Bh_senseAll 27 t_Bh_senseAll_27 := dk_go 1 a_Bh_senseAll_26 rfl
theorem a_Bh_senseAll_28 : dk_at b_Bh_senseAll 28 t_Bh_senseAll_28 := dk_go 1 a_Bh_senseAll_27 rfl
theorem a_Bh_senseAll_31 : dk_at b_Bh_senseAll 31 t_Bh_senseAll_31 := dk_go 3 a_Bh_senseAll_28 rfl
theorem a_Bh_senseAll_32 : dk_at b_Bh_senseAll 32 t_Bh_senseAll_32 := dk_go 1 a_Bh_senseAll_31 rfl
theorem a_Bh_senseAll_33 : dk_at b_Bh_senseAll 33 t_Bh_senseAll_33 := dk_go 1 a_Bh_senseAll_32 rfl
theorem a_Bh_senseAll_34 : dk_at b_Bh_senseAll 34 t_Bh_senseAll_34 := dk_go 1 a_Bh_senseAll_33 rfl
theorem a_Bh_senseAll_37 : dk_at b_Bh_senseAll 37 t_Bh_senseAll_37 := dk_go 3 a_Bh_senseAll_34 rfl
theorem a_Bh_senseAll_38 : dk_at b_Bh_senseAll 38 t_Bh_senseAll_38 := dk_go 1 a_Bh_senseAll_37 rfl
theorem a_Bh_senseAll_39 : dk_at b_Bh_senseAll 39 t_Bh_senseAll_39 := dk_go 1 a_Bh_senseAll_38 rfl
theorem a_Bh_senseAll_42 : dk_at b_Bh_senseAll 42 t_Bh_senseAll_42 := dk_go 3 a_Bh_senseAll_39 rfl
theorem a_Bh_senseAll_43 : dk_at b_Bh_senseAll 43 t_Bh_senseAll_43 := dk_go 1 a_Bh_senseAll_42 rfl
theorem a_Bh_senseAll_44 : dk_at b_Bh_senseAll 44 t_Bh_senseAll_44 := dk_go 1 a_Bh_senseAll_43 rfl
theorem a_Bh_senseAll_47 : dk_at b_Bh_senseAll 47 t_Bh_senseAll_47 := dk_go 3 a_Bh_senseAll_44 rfl
theorem a_Bh_senseAll_48 : dk_at b_Bh_senseAll 48 t_Bh_senseAll_48 := dk_go 1 a_Bh_senseAll_47 rfl
theorem a_Bh_senseAll_49 : dk_at b_Bh_senseAll 49 t_Bh_senseAll_49 := dk_go 1 a_Bh_senseAll_48 rfl
theorem a_Bh_senseAll_50 : dk_at b_Bh_senseAll 50 t_Bh_senseAll_50 := dk_go 1 a_Bh_senseAll_49 rfl
theorem a_Bh_senseAll_51 : dk_at b_Bh_senseAll 51 t_Bh_senseAll_51 := dk_go 1 a_Bh_senseAll_50 rfl
theorem a_Bh_senseAll_54 : dk_at b_Bh_senseAll 54 t_Bh_senseAll_54 := dk_go 3 a_Bh_senseAll_51 rfl
theorem a_Bh_senseAll_57 : dk_at b_Bh_senseAll 57 t_Bh_senseAll_57 := dk_go 3 a_Bh_senseAll_54 rfl
theorem a_Bh_senseAll_60 : dk_at b_Bh_senseAll 60 t_Bh_senseAll_60 := dk_go 3 a_Bh_senseAll_57 rfl
theorem a_Bh_senseAll_61 : dk_at b_Bh_senseAll 61 t_Bh_senseAll_61 := dk_go 1 a_Bh_senseAll_60 rfl
theorem a_Bh_senseAll_64 : dk_at b_Bh_senseAll 64 t_Bh_senseAll_64 := dk_go 3 a_Bh_senseAll_61 rfl
theorem a_Bh_senseAll_65 : dk_at b_Bh_senseAll 65 t_Bh_senseAll_65 := dk_go 1 a_Bh_senseAll_64 rfl
theorem a_Bh_senseAll_66 : dk_at b_Bh_senseAll 66 t_Bh_senseAll_66 := dk_go 1 a_Bh_senseAll_65 rfl
theorem a_Bh_senseAll_69 : dk_at b_Bh_senseAll 69 t_Bh_senseAll_69 := dk_go 3 a_Bh_senseAll_66 rfl
theorem a_Bh_senseAll_72 : dk_at b_Bh_senseAll 72 t_Bh_senseAll_72 := dk_go 3 a_Bh_senseAll_69 rfl
theorem a_Bh_senseAll_73 : dk_at b_Bh_senseAll 73 t_Bh_senseAll_73 := dk_go 1 a_Bh_senseAll_72 rfl
theorem a_Bh_senseAll_74 : dk_at b_Bh_senseAll 74 t_Bh_senseAll_74 := dk_go 1 a_Bh_senseAll_73 rfl
theorem a_Bh_senseAll_75 : dk_at b_Bh_senseAll 75 t_Bh_senseAll_75 := dk_go 1 a_Bh_senseAll_74 rfl
theorem a_Bh_senseAll_76 : dk_at b_Bh_senseAll 76 t_Bh_senseAll_76 := dk_go 1 a_Bh_senseAll_75 rfl
theorem a_Bh_senseAll_77 : dk_at b_Bh_senseAll 77 t_Bh_senseAll_77 := dk_go 1 a_Bh_senseAll_76 rfl
theorem a_Bh_senseAll_79 : dk_at b_Bh_senseAll 79 t_Bh_senseAll_79 := dk_go 2 a_Bh_senseAll_77 rfl
theorem a_Bh_senseAll_82 : dk_at b_Bh_senseAll 82 t_Bh_senseAll_82 := dk_go 3 a_Bh_senseAll_79 rfl
theorem a_Bh_senseAll_83 : dk_at b_Bh_senseAll 83 t_Bh_senseAll_83 := dk_go 1 a_Bh_senseAll_82 rfl
theorem a_Bh_senseAll_86 : dk_at b_Bh_senseAll 86 t_Bh_senseAll_86 := dk_go 3 a_Bh_senseAll_83 rfl
theorem a_Bh_senseAll_87 : dk_at b_Bh_senseAll 87 t_Bh_senseAll_87 := dk_go 1 a_Bh_senseAll_86 rfl
theorem a_Bh_senseAll_88 : dk_at b_Bh_senseAll 88 t_Bh_senseAll_88 := dk_go 1 a_Bh_senseAll_87 rfl
theorem a_Bh_senseAll_89 : dk_at b_Bh_senseAll 89 t_Bh_senseAll_89 := dk_go 1 a_Bh_senseAll_88 rfl
theorem a_Bh_senseAll_92 : dk_at b_Bh_senseAll 92 t_Bh_senseAll_92 := dk_go 3 a_Bh_senseAll_89 rfl
theorem a_Bh_senseAll_93 : dk_at b_Bh_senseAll 93 t_Bh_senseAll_93 := dk_go 1 a_Bh_senseAll_92 rfl
theorem a_Bh_senseAll_94 : dk_at b_Bh_senseAll 94 t_Bh_senseAll_94 := dk_go 1 a_Bh_senseAll_93 rfl
theorem a_Bh_senseAll_97 : dk_at b_Bh_senseAll 97 t_Bh_senseAll_97 := dk_go 3 a_Bh_senseAll_94 rfl
theorem a_Bh_senseAll_98 : dk_at b_Bh_senseAll 98 t_Bh_senseAll_98 := dk_go 1 a_Bh_senseAll_97 rfl
theorem a_Bh_senseAll_99 : dk_at b_Bh_senseAll 99 t_Bh_senseAll_99 := dk_go 1 a_Bh_senseAll_98 rfl
theorem a_Bh_senseAll_100 : dk_at b_Bh_senseAll 100 t_Bh_senseAll_100 := dk_go 1 a_Bh_senseAll_99 rfl
theorem a_Bh_senseAll_103 : dk_at b_Bh_senseAll 103 t_Bh_senseAll_103 := dk_go 3 a_Bh_senseAll_100 rfl
theorem a_Bh_senseAll_104 : dk_at b_Bh_senseAll 104 t_Bh_senseAll_104 := dk_go 1 a_Bh_senseAll_103 rfl
theorem a_Bh_senseAll_105 : dk_at b_Bh_senseAll 105 t_Bh_senseAll_105 := dk_go 1 a_Bh_senseAll_104 rfl
theorem a_Bh_senseAll_108 : dk_at b_Bh_senseAll 108 t_Bh_senseAll_108 := dk_go 3 a_Bh_senseAll_105 rfl
theorem a_Bh_senseAll_110 : dk_at b_Bh_senseAll 110 t_Bh_senseAll_110 := dk_go 2 a_Bh_senseAll_108 rfl
theorem a_Bh_senseAll_111 : dk_at b_Bh_senseAll 111 t_Bh_senseAll_111 := dk_go 1 a_Bh_senseAll_110 rfl
theorem a_Bh_senseAll_113 : dk_at b_Bh_senseAll 113 t_Bh_senseAll_113 := dk_go 2 a_Bh_senseAll_111 rfl
theorem a_Bh_senseAll_114 : dk_at b_Bh_senseAll 114 t_Bh_senseAll_114 := dk_go 1 a_Bh_senseAll_113 rfl
theorem a_Bh_senseAll_115 : dk_at b_Bh_senseAll 115 t_Bh_senseAll_115 := dk_go 1 a_Bh_senseAll_114 rfl
theorem a_Bh_senseAll_118 : dk_at b_Bh_senseAll 118 t_Bh_senseAll_118 := dk_go 3 a_Bh_senseAll_115 rfl
theorem a_Bh_senseAll_120 : dk_at b_Bh_senseAll 120 t_Bh_senseAll_120 := dk_go 2 a_Bh_senseAll_118 rfl
theorem a_Bh_senseAll_121 : dk_at b_Bh_senseAll 121 t_Bh_senseAll_121 := dk_go 1 a_Bh_senseAll_120 rfl
theorem a_Bh_senseAll_124 : dk_at b_Bh_senseAll 124 t_Bh_senseAll_124 := dk_go 3 a_Bh_senseAll_121 rfl
theorem a_Bh_senseAll_125 : dk_at b_Bh_senseAll 125 t_Bh_senseAll_125 := dk_go 1 a_Bh_senseAll_124 rfl
theorem a_Bh_senseAll_126 : dk_at b_Bh_senseAll 126 t_Bh_senseAll_126 := dk_go 1 a_Bh_senseAll_125 rfl
theorem a_Bh_senseAll_127 : dk_at b_Bh_senseAll 127 t_Bh_senseAll_127 := dk_go 1 a_Bh_senseAll_126 rfl
theorem a_Bh_senseAll_130 : dk_at b_Bh_senseAll 130 t_Bh_senseAll_130 := dk_go 3 a_Bh_senseAll_127 rfl
theorem a_Bh_senseAll_131 : dk_at b_Bh_senseAll 131 t_Bh_senseAll_131 := dk_go 1 a_Bh_senseAll_130 rfl
theorem a_Bh_senseAll_132 : dk_at b_Bh_senseAll 132 t_Bh_senseAll_132 := dk_go 1 a_Bh_senseAll_131 rfl
theorem a_Bh_senseAll_133 : dk_at b_Bh_senseAll 133 t_Bh_senseAll_133 := dk_go 1 a_Bh_senseAll_132 rfl
theorem a_Bh_senseAll_136 : dk_at b_Bh_senseAll 136 t_Bh_senseAll_136 := dk_go 3 a_Bh_senseAll_133 rfl
theorem a_Bh_senseAll_137 : dk_at b_Bh_senseAll 137 t_Bh_senseAll_137 := dk_go 1 a_Bh_senseAll_136 rfl
theorem a_Bh_senseAll_138 : dk_at b_Bh_senseAll 138 t_Bh_senseAll_138 := dk_go 1 a_Bh_senseAll_137 rfl
theorem a_Bh_senseAll_139 : dk_at b_Bh_senseAll 139 t_Bh_senseAll_139 := dk_go 1 a_Bh_senseAll_138 rfl
theorem a_Bh_senseAll_142 : dk_at b_Bh_senseAll 142 t_Bh_senseAll_142 := dk_go 3 a_Bh_senseAll_139 rfl
theorem a_Bh_senseAll_145 : dk_at b_Bh_senseAll 145 t_Bh_senseAll_145 := dk_go 3 a_Bh_senseAll_142 rfl
theorem a_Bh_senseAll_146 : dk_at b_Bh_senseAll 146 t_Bh_senseAll_146 := dk_go 1 a_Bh_senseAll_145 rfl
theorem a_Bh_senseAll_149 : dk_at b_Bh_senseAll 149 t_Bh_senseAll_149 := dk_go 3 a_Bh_senseAll_146 rfl
theorem a_Bh_senseAll_152 : dk_at b_Bh_senseAll 152 t_Bh_senseAll_152 := dk_go 3 a_Bh_senseAll_149 rfl
theorem a_Bh_senseAll_153 : dk_at b_Bh_senseAll 153 t_Bh_senseAll_153 := dk_go 1 a_Bh_senseAll_152 rfl
theorem a_Bh_senseAll_156 : dk_at b_Bh_senseAll 156 t_Bh_senseAll_156 := dk_go 3 a_Bh_senseAll_153 rfl
theorem d_Bh_senseAll_0 : decode b_Bh_senseAll 0 = .ok (.aload_n 0, 1) := dk_0 a_Bh_senseAll_0 (dko_42 _)
theorem d_Bh_senseAll_1 : decode b_Bh_senseAll 1 = .ok (.getfield 62, 3) := dk_U2 a_Bh_senseAll_1 (dko_180 _) rfl
theorem d_Bh_senseAll_4 : decode b_Bh_senseAll 4 = .ok (.getfield 183, 3) := dk_U2 a_Bh_senseAll_4 (dko_180 _) rfl
theorem d_Bh_senseAll_7 : decode b_Bh_senseAll 7 = .ok (.astore_n 1, 1) := dk_0 a_Bh_senseAll_7 (dko_76 _)
theorem d_Bh_senseAll_8 : decode b_Bh_senseAll 8 = .ok (.iconst 0, 1) := dk_0 a_Bh_senseAll_8 (dko_3 _)
theorem d_Bh_senseAll_9 : decode b_Bh_senseAll 9 = .ok (.istore_n 2, 1) := dk_0 a_Bh_senseAll_9 (dko_61 _)
theorem d_Bh_senseAll_10 : decode b_Bh_senseAll 10 = .ok (.iload_n 2, 1) := dk_0 a_Bh_senseAll_10 (dko_28 _)
theorem d_Bh_senseAll_11 : decode b_Bh_senseAll 11 = .ok (.aload_n 1, 1) := dk_0 a_Bh_senseAll_11 (dko_43 _)
theorem d_Bh_senseAll_12 : decode b_Bh_senseAll 12 = .ok (.getfield 292, 3) := dk_U2 a_Bh_senseAll_12 (dko_180 _) rfl
theorem d_Bh_senseAll_15 : decode b_Bh_senseAll 15 = .ok (.if_icmp .ge 57, 3) := dk_S2 a_Bh_senseAll_15 (dko_162 _) (by decide +kernel)
theorem d_Bh_senseAll_18 : decode b_Bh_senseAll 18 = .ok (.aload_n 1, 1) := dk_0 a_Bh_senseAll_18 (dko_43 _)
theorem d_Bh_senseAll_19 : decode b_Bh_senseAll 19 = .ok (.iload_n 2, 1) := dk_0 a_Bh_senseAll_19 (dko_28 _)
theorem d_Bh_senseAll_20 : decode b_Bh_senseAll 20 = .ok (.invokevirtual 295, 3) := dk_U2 a_Bh_senseAll_20 (dko_182 _) rfl
theorem d_Bh_senseAll_23 : decode b_Bh_senseAll 23 = .ok (.ifCond .eq 43, 3) := dk_S2 a_Bh_senseAll_23 (dko_153 _) (by decide +kernel)
theorem d_Bh_senseAll_26 : decode b_Bh_senseAll 26 = .ok (.aload_n 0, 1) := dk_0 a_Bh_senseAll_26 (dko_42 _)
theorem d_Bh_senseAll_27 : decode b_Bh_senseAll 27 = .ok (.aload_n 1, 1) := dk_0 a_Bh_senseAll_27 (dko_43 _)
theorem d_Bh_senseAll_28 : decode b_Bh_senseAll 28 = .ok (.getfield 241, 3) := dk_U2 a_Bh_senseAll_28 (dko_180 _) rfl
theorem d_Bh_senseAll_31 : decode b_Bh_senseAll 31 = .ok (.iload_n 2, 1) := dk_0 a_Bh_senseAll_31 (dko_28 _)
theorem d_Bh_senseAll_32 : decode b_Bh_senseAll 32 = .ok (.iaload, 1) := dk_0 a_Bh_senseAll_32 (dko_46 _)
theorem d_Bh_senseAll_33 : decode b_Bh_senseAll 33 = .ok (.aload_n 1, 1) := dk_0 a_Bh_senseAll_33 (dko_43 _)
theorem d_Bh_senseAll_34 : decode b_Bh_senseAll 34 = .ok (.getfield 244, 3) := dk_U2 a_Bh_senseAll_34 (dko_180 _) rfl
theorem d_Bh_senseAll_37 : decode b_Bh_senseAll 37 = .ok (.iload_n 2, 1) := dk_0 a_Bh_senseAll_37 (dko_28 _)
theorem d_Bh_senseAll_38 : decode b_Bh_senseAll 38 = .ok (.iaload, 1) := dk_0 a_Bh_senseAll_38 (dko_46 _)
theorem d_Bh_senseAll_39 : decode b_Bh_senseAll 39 = .ok (.invokevirtual 298, 3) := dk_U2 a_Bh_senseAll_39 (dko_182 _) rfl
theorem d_Bh_senseAll_42 : decode b_Bh_senseAll 42 = .ok (.lstore_n 3, 1) := dk_0 a_Bh_senseAll_42 (dko_66 _)
theorem d_Bh_senseAll_43 : decode b_Bh_senseAll 43 = .ok (.aload_n 1, 1) := dk_0 a_Bh_senseAll_43 (dko_43 _)
theorem d_Bh_senseAll_44 : decode b_Bh_senseAll 44 = .ok (.getfield 247, 3) := dk_U2 a_Bh_senseAll_44 (dko_180 _) rfl
theorem d_Bh_senseAll_47 : decode b_Bh_senseAll 47 = .ok (.iload_n 2, 1) := dk_0 a_Bh_senseAll_47 (dko_28 _)
theorem d_Bh_senseAll_48 : decode b_Bh_senseAll 48 = .ok (.lload_n 3, 1) := dk_0 a_Bh_senseAll_48 (dko_33 _)
theorem d_Bh_senseAll_49 : decode b_Bh_senseAll 49 = .ok (.lconst 0, 1) := dk_0 a_Bh_senseAll_49 (dko_9 _)
theorem d_Bh_senseAll_50 : decode b_Bh_senseAll 50 = .ok (.lcmp, 1) := dk_0 a_Bh_senseAll_50 (dko_148 _)
theorem d_Bh_senseAll_51 : decode b_Bh_senseAll 51 = .ok (.ifCond .ge 9, 3) := dk_S2 a_Bh_senseAll_51 (dko_156 _) (by decide +kernel)
theorem d_Bh_senseAll_54 : decode b_Bh_senseAll 54 = .ok (.ldc2_w 302, 3) := dk_U2 a_Bh_senseAll_54 (dko_20 _) rfl
theorem d_Bh_senseAll_57 : decode b_Bh_senseAll 57 = .ok (.goto 8, 3) := dk_S2 a_Bh_senseAll_57 (dko_167 _) (by decide +kernel)
theorem d_Bh_senseAll_60 : decode b_Bh_senseAll 60 = .ok (.lload_n 3, 1) := dk_0 a_Bh_senseAll_60 (dko_33 _)
theorem d_Bh_senseAll_61 : decode b_Bh_senseAll 61 = .ok (.ldc2_w 304, 3) := dk_U2 a_Bh_senseAll_61 (dko_20 _) rfl
theorem d_Bh_senseAll_64 : decode b_Bh_senseAll 64 = .ok (.lmul, 1) := dk_0 a_Bh_senseAll_64 (dko_105 _)
theorem d_Bh_senseAll_65 : decode b_Bh_senseAll 65 = .ok (.lastore, 1) := dk_0 a_Bh_senseAll_65 (dko_80 _)
theorem d_Bh_senseAll_66 : decode b_Bh_senseAll 66 = .ok (.iinc 2 1, 3) := dk_US a_Bh_senseAll_66 (dko_132 _) (by decide +kernel)
theorem d_Bh_senseAll_69 : decode b_Bh_senseAll 69 = .ok (.goto (-59), 3) := dk_S2 a_Bh_senseAll_69 (dko_167 _) (by decide +kernel)
theorem d_Bh_senseAll_72 : decode b_Bh_senseAll 72 = .ok (.iconst 0, 1) := dk_0 a_Bh_senseAll_72 (dko_3 _)
theorem d_Bh_senseAll_73 : decode b_Bh_senseAll 73 = .ok (.istore_n 2, 1) := dk_0 a_Bh_senseAll_73 (dko_61 _)
theorem d_Bh_senseAll_74 : decode b_Bh_senseAll 74 = .ok (.iconst 0, 1) := dk_0 a_Bh_senseAll_74 (dko_3 _)
theorem d_Bh_senseAll_75 : decode b_Bh_senseAll 75 = .ok (.istore_n 3, 1) := dk_0 a_Bh_senseAll_75 (dko_62 _)
theorem d_Bh_senseAll_76 : decode b_Bh_senseAll 76 = .ok (.iload_n 3, 1) := dk_0 a_Bh_senseAll_76 (dko_29 _)
theorem d_Bh_senseAll_77 : decode b_Bh_senseAll 77 = .ok (.bipush 16, 2) := dk_S1 a_Bh_senseAll_77 (dko_16 _) (by decide +kernel)
theorem d_Bh_senseAll_79 : decode b_Bh_senseAll 79 = .ok (.if_icmp .ge 66, 3) := dk_S2 a_Bh_senseAll_79 (dko_162 _) (by decide +kernel)
theorem d_Bh_senseAll_82 : decode b_Bh_senseAll 82 = .ok (.aload_n 0, 1) := dk_0 a_Bh_senseAll_82 (dko_42 _)
theorem d_Bh_senseAll_83 : decode b_Bh_senseAll 83 = .ok (.getfield 98, 3) := dk_U2 a_Bh_senseAll_83 (dko_180 _) rfl
theorem d_Bh_senseAll_86 : decode b_Bh_senseAll 86 = .ok (.iload_n 3, 1) := dk_0 a_Bh_senseAll_86 (dko_29 _)
theorem d_Bh_senseAll_87 : decode b_Bh_senseAll 87 = .ok (.iaload, 1) := dk_0 a_Bh_senseAll_87 (dko_46 _)
theorem d_Bh_senseAll_88 : decode b_Bh_senseAll 88 = .ok (.iconst 5, 1) := dk_0 a_Bh_senseAll_88 (dko_8 _)
theorem d_Bh_senseAll_89 : decode b_Bh_senseAll 89 = .ok (.if_icmp .ge 50, 3) := dk_S2 a_Bh_senseAll_89 (dko_162 _) (by decide +kernel)
theorem d_Bh_senseAll_92 : decode b_Bh_senseAll 92 = .ok (.aload_n 0, 1) := dk_0 a_Bh_senseAll_92 (dko_42 _)
theorem d_Bh_senseAll_93 : decode b_Bh_senseAll 93 = .ok (.aload_n 0, 1) := dk_0 a_Bh_senseAll_93 (dko_42 _)
theorem d_Bh_senseAll_94 : decode b_Bh_senseAll 94 = .ok (.getfield 98, 3) := dk_U2 a_Bh_senseAll_94 (dko_180 _) rfl
theorem d_Bh_senseAll_97 : decode b_Bh_senseAll 97 = .ok (.iload_n 3, 1) := dk_0 a_Bh_senseAll_97 (dko_29 _)
theorem d_Bh_senseAll_98 : decode b_Bh_senseAll 98 = .ok (.iaload, 1) := dk_0 a_Bh_senseAll_98 (dko_46 _)
theorem d_Bh_senseAll_99 : decode b_Bh_senseAll 99 = .ok (.aload_n 0, 1) := dk_0 a_Bh_senseAll_99 (dko_42 _)
theorem d_Bh_senseAll_100 : decode b_Bh_senseAll 100 = .ok (.getfield 102, 3) := dk_U2 a_Bh_senseAll_100 (dko_180 _) rfl
theorem d_Bh_senseAll_103 : decode b_Bh_senseAll 103 = .ok (.iload_n 3, 1) := dk_0 a_Bh_senseAll_103 (dko_29 _)
theorem d_Bh_senseAll_104 : decode b_Bh_senseAll 104 = .ok (.iaload, 1) := dk_0 a_Bh_senseAll_104 (dko_46 _)
theorem d_Bh_senseAll_105 : decode b_Bh_senseAll 105 = .ok (.invokevirtual 298, 3) := dk_U2 a_Bh_senseAll_105 (dko_182 _) rfl
theorem d_Bh_senseAll_108 : decode b_Bh_senseAll 108 = .ok (.lstore 4, 2) := dk_U1 a_Bh_senseAll_108 (dko_55 _) rfl
theorem d_Bh_senseAll_110 : decode b_Bh_senseAll 110 = .ok (.iload_n 2, 1) := dk_0 a_Bh_senseAll_110 (dko_28 _)
theorem d_Bh_senseAll_111 : decode b_Bh_senseAll 111 = .ok (.lload 4, 2) := dk_U1 a_Bh_senseAll_111 (dko_22 _) rfl
theorem d_Bh_senseAll_113 : decode b_Bh_senseAll 113 = .ok (.lconst 0, 1) := dk_0 a_Bh_senseAll_113 (dko_9 _)
theorem d_Bh_senseAll_114 : decode b_Bh_senseAll 114 = .ok (.lcmp, 1) := dk_0 a_Bh_senseAll_114 (dko_148 _)
theorem d_Bh_senseAll_115 : decode b_Bh_senseAll 115 = .ok (.ifCond .lt 21, 3) := dk_S2 a_Bh_senseAll_115 (dko_155 _) (by decide +kernel)
theorem d_Bh_senseAll_118 : decode b_Bh_senseAll 118 = .ok (.lload 4, 2) := dk_U1 a_Bh_senseAll_118 (dko_22 _) rfl
theorem d_Bh_senseAll_120 : decode b_Bh_senseAll 120 = .ok (.aload_n 0, 1) := dk_0 a_Bh_senseAll_120 (dko_42 _)
theorem d_Bh_senseAll_121 : decode b_Bh_senseAll 121 = .ok (.getfield 105, 3) := dk_U2 a_Bh_senseAll_121 (dko_180 _) rfl
theorem d_Bh_senseAll_124 : decode b_Bh_senseAll 124 = .ok (.iload_n 3, 1) := dk_0 a_Bh_senseAll_124 (dko_29 _)
theorem d_Bh_senseAll_125 : decode b_Bh_senseAll 125 = .ok (.laload, 1) := dk_0 a_Bh_senseAll_125 (dko_47 _)
theorem d_Bh_senseAll_126 : decode b_Bh_senseAll 126 = .ok (.lcmp, 1) := dk_0 a_Bh_senseAll_126 (dko_148 _)
theorem d_Bh_senseAll_127 : decode b_Bh_senseAll 127 = .ok (.ifCond .lt 9, 3) := dk_S2 a_Bh_senseAll_127 (dko_155 _) (by decide +kernel)
theorem d_Bh_senseAll_130 : decode b_Bh_senseAll 130 = .ok (.iconst 1, 1) := dk_0 a_Bh_senseAll_130 (dko_4 _)
theorem d_Bh_senseAll_131 : decode b_Bh_senseAll 131 = .ok (.iload_n 3, 1) := dk_0 a_Bh_senseAll_131 (dko_29 _)
theorem d_Bh_senseAll_132 : decode b_Bh_senseAll 132 = .ok (.ishl, 1) := dk_0 a_Bh_senseAll_132 (dko_120 _)
theorem d_Bh_senseAll_133 : decode b_Bh_senseAll 133 = .ok (.goto 4, 3) := dk_S2 a_Bh_senseAll_133 (dko_167 _) (by decide +kernel)
theorem d_Bh_senseAll_136 : decode b_Bh_senseAll 136 = .ok (.iconst 0, 1) := dk_0 a_Bh_senseAll_136 (dko_3 _)
theorem d_Bh_senseAll_137 : decode b_Bh_senseAll 137 = .ok (.ior, 1) := dk_0 a_Bh_senseAll_137 (dko_128 _)
theorem d_Bh_senseAll_138 : decode b_Bh_senseAll 138 = .ok (.istore_n 2, 1) := dk_0 a_Bh_senseAll_138 (dko_61 _)
theorem d_Bh_senseAll_139 : decode b_Bh_senseAll 139 = .ok (.iinc 3 1, 3) := dk_US a_Bh_senseAll_139 (dko_132 _) (by decide +kernel)
theorem d_Bh_senseAll_142 : decode b_Bh_senseAll 142 = .ok (.goto (-66), 3) := dk_S2 a_Bh_senseAll_142 (dko_167 _) (by decide +kernel)
theorem d_Bh_senseAll_145 : decode b_Bh_senseAll 145 = .ok (.aload_n 0, 1) := dk_0 a_Bh_senseAll_145 (dko_42 _)
theorem d_Bh_senseAll_146 : decode b_Bh_senseAll 146 = .ok (.getfield 53, 3) := dk_U2 a_Bh_senseAll_146 (dko_180 _) rfl
theorem d_Bh_senseAll_149 : decode b_Bh_senseAll 149 = .ok (.getfield 174, 3) := dk_U2 a_Bh_senseAll_149 (dko_180 _) rfl
theorem d_Bh_senseAll_152 : decode b_Bh_senseAll 152 = .ok (.iload_n 2, 1) := dk_0 a_Bh_senseAll_152 (dko_28 _)
theorem d_Bh_senseAll_153 : decode b_Bh_senseAll 153 = .ok (.putfield 177, 3) := dk_U2 a_Bh_senseAll_153 (dko_181 _) rfl
theorem d_Bh_senseAll_156 : decode b_Bh_senseAll 156 = .ok (.return_, 1) := dk_0 a_Bh_senseAll_156 (dko_177 _)
set_option maxHeartbeats 4000000 in
set_option maxRecDepth 100000 in
theorem ok_Bh_senseAll (pc : Nat) : OpS mt mi_Bh_senseAll pc (cs_Bh_senseAll pc) := (os_n (os_n (os_n (os_n (os_n (os_n (os_l (so_aload_n d_Bh_senseAll_0 rfl)) (os_l (so_get (C := R_Bh) (T := F_Bh) (N := 16) (j := 6) in_Bh rfl (by decide) mw_690 d_Bh_senseAll_1))) (os_n (os_l (so_get (C := R_Ru) (T := F_Ru) (N := 21) (j := 3) in_Ru rfl (by decide) mw_515 d_Bh_senseAll_4)) (os_n (os_l (so_astore_n d_Bh_senseAll_7 rfl (by decide))) (os_l (so_iconst d_Bh_senseAll_8 (by decide)))))) (os_n (os_n (os_l (so_istore_n d_Bh_senseAll_9 rfl (by decide))) (os_n (os_l (so_iload_n d_Bh_senseAll_10 rfl)) (os_l (so_aload_n d_Bh_senseAll_11 rfl)))) (os_n (os_l (so_get (C := R_Pr) (T := F_Pr) (N := 18) (j := 10) in_Pr rfl (by decide) mw_459 d_Bh_senseAll_12)) (os_n (os_l (so_icge d_Bh_senseAll_15 (by decide))) (os_l (so_aload_n d_Bh_senseAll_18 rfl)))))) (os_n (os_n (os_n (os_l (so_iload_n d_Bh_senseAll_19 rfl)) (os_l (so_callV (iv := mi_Pr_isSensed) rfl rfl rfl mw_1326 mw_1306 mw_1307 mw_12 mw_1308 ⟨by decide +kernel, by decide +kernel, by decide +kernel⟩ (by decide) d_Bh_senseAll_20))) (os_n (os_l (so_ifeq d_Bh_senseAll_23 (by decide))) (os_n (os_l (so_aload_n d_Bh_senseAll_26 rfl)) (os_l (so_aload_n d_Bh_senseAll_27 rfl))))) (os_n (os_n (os_l (so_get (C := R_Pr) (T := F_Pr) (N := 18) (j := 16) in_Pr rfl (by decide) mw_471 d_Bh_senseAll_28)) (os_n (os_l (so_iload_n d_Bh_senseAll_31 rfl)) (os_l (so_iaload d_Bh_senseAll_32)))) (os_n (os_l (so_aload_n d_Bh_senseAll_33 rfl)) (os_n (os_l (so_get (C := R_Pr) (T := F_Pr) (N := 18) (j := 17) in_Pr rfl (by decide) mw_473 d_Bh_senseAll_34)) (os_l (so_iload_n d_Bh_senseAll_37 rfl))))))) (os_n (os_n (os_n (os_n (os_l (so_iaload d_Bh_senseAll_38)) (os_l (so_callV (iv := mi_Bh_sensed) rfl rfl rfl mw_1327 mw_1329 sl_63 mw_1 mw_1330 ⟨by decide +kernel, by decide +kernel, by decide +kernel⟩ (by decide) d_Bh_senseAll_39))) (os_n (os_l (so_lstore_n d_Bh_senseAll_42 rfl (by decide))) (os_n (os_l (so_aload_n d_Bh_senseAll_43 rfl)) (os_l (so_get (C := R_Pr) (T := F_Pr) (N := 18) (j := 15) in_Pr rfl (by decide) mw_468 d_Bh_senseAll_44))))) (os_n (os_n (os_l (so_iload_n d_Bh_senseAll_47 rfl)) (os_n (os_l (so_lload_n d_Bh_senseAll_48 rfl)) (os_l (so_lconst d_Bh_senseAll_49 (by decide))))) (os_n (os_l (so_lcmp d_Bh_senseAll_50)) (os_n (os_l (so_ifge d_Bh_senseAll_51 (by decide))) (os_l (so_ldc2 mw_1331 d_Bh_senseAll_54)))))) (os_n (os_n (os_n (os_l (so_goto d_Bh_senseAll_57 (by decide))) (os_n (os_l (so_lload_n d_Bh_senseAll_60 rfl)) (os_l (so_ldc2 mw_1334 d_Bh_senseAll_61)))) (os_n (os_l (so_lmul d_Bh_senseAll_64)) (os_n (os_l (so_lastore d_Bh_senseAll_65)) (os_l (so_iinc d_Bh_senseAll_66 (by decide) (by decide)))))) (os_n (os_n (os_l (so_goto d_Bh_senseAll_69 (by decide))) (os_n (os_l (so_iconst d_Bh_senseAll_72 (by decide))) (os_l (so_istore_n d_Bh_senseAll_73 rfl (by decide))))) (os_n (os_l (so_iconst d_Bh_senseAll_74 (by decide))) (os_n (os_l (so_istore_n d_Bh_senseAll_75 rfl (by decide))) (os_l (so_iload_n d_Bh_senseAll_76 rfl)))))))) (os_n (os_n (os_n (os_n (os_n (os_l (so_bipush d_Bh_senseAll_77 (by decide))) (os_l (so_icge d_Bh_senseAll_79 (by decide)))) (os_n (os_l (so_aload_n d_Bh_senseAll_82 rfl)) (os_n (os_l (so_get (C := R_Bh) (T := F_Bh) (N := 16) (j := 13) in_Bh rfl (by decide) mw_697 d_Bh_senseAll_83)) (os_l (so_iload_n d_Bh_senseAll_86 rfl))))) (os_n (os_n (os_l (so_iaload d_Bh_senseAll_87)) (os_n (os_l (so_iconst d_Bh_senseAll_88 (by decide))) (os_l (so_icge d_Bh_senseAll_89 (by decide))))) (os_n (os_l (so_aload_n d_Bh_senseAll_92 rfl)) (os_n (os_l (so_aload_n d_Bh_senseAll_93 rfl)) (os_l (so_get (C := R_Bh) (T := F_Bh) (N := 16) (j := 13) in_Bh rfl (by decide) mw_697 d_Bh_senseAll_94)))))) (os_n (os_n (os_n (os_l (so_iload_n d_Bh_senseAll_97 rfl)) (os_n (os_l (so_iaload d_Bh_senseAll_98)) (os_l (so_aload_n d_Bh_senseAll_99 rfl)))) (os_n (os_l (so_get (C := R_Bh) (T := F_Bh) (N := 16) (j := 14) in_Bh rfl (by decide) mw_698 d_Bh_senseAll_100)) (os_n (os_l (so_iload_n d_Bh_senseAll_103 rfl)) (os_l (so_iaload d_Bh_senseAll_104))))) (os_n (os_n (os_l (so_callV (iv := mi_Bh_sensed) rfl rfl rfl mw_1327 mw_1329 sl_63 mw_1 mw_1330 ⟨by decide +kernel, by decide +kernel, by decide +kernel⟩ (by decide) d_Bh_senseAll_105)) (os_n (os_l (so_lstore d_Bh_senseAll_108 (by decide))) (os_l (so_iload_n d_Bh_senseAll_110 rfl)))) (os_n (os_l (so_lload d_Bh_senseAll_111)) (os_n (os_l (so_lconst d_Bh_senseAll_113 (by decide))) (os_l (so_lcmp d_Bh_senseAll_114))))))) (os_n (os_n (os_n (os_n (os_l (so_iflt d_Bh_senseAll_115 (by decide))) (os_l (so_lload d_Bh_senseAll_118))) (os_n (os_l (so_aload_n d_Bh_senseAll_120 rfl)) (os_n (os_l (so_get (C := R_Bh) (T := F_Bh) (N := 16) (j := 15) in_Bh rfl (by decide) mw_699 d_Bh_senseAll_121)) (os_l (so_iload_n d_Bh_senseAll_124 rfl))))) (os_n (os_n (os_l (so_laload d_Bh_senseAll_125)) (os_n (os_l (so_lcmp d_Bh_senseAll_126)) (os_l (so_iflt d_Bh_senseAll_127 (by decide))))) (os_n (os_l (so_iconst d_Bh_senseAll_130 (by decide))) (os_n (os_l (so_iload_n d_Bh_senseAll_131 rfl)) (os_l (so_ishl d_Bh_senseAll_132)))))) (os_n (os_n (os_n (os_l (so_goto d_Bh_senseAll_133 (by decide))) (os_n (os_l (so_iconst d_Bh_senseAll_136 (by decide))) (os_l (so_ior d_Bh_senseAll_137)))) (os_n (os_l (so_istore_n d_Bh_senseAll_138 rfl (by decide))) (os_n (os_l (so_iinc d_Bh_senseAll_139 (by decide) (by decide))) (os_l (so_goto d_Bh_senseAll_142 (by decide)))))) (os_n (os_n (os_l (so_aload_n d_Bh_senseAll_145 rfl)) (os_n (os_l (so_get (C := R_Bh) (T := F_Bh) (N := 16) (j := 5) in_Bh rfl (by decide) mw_689 d_Bh_senseAll_146)) (os_l (so_get (C := R_Ac) (T := F_Ac) (N := 8) (j := 3) in_Ac rfl (by decide) mw_394 d_Bh_senseAll_149)))) (os_n (os_l (so_iload_n d_Bh_senseAll_152 rfl)) (os_n (os_l (so_putI (C := R_Ro) (T := F_Ro) (N := 18) (j := 1) in_Ro t_Ro_ok n_Ro rfl (by decide) mw_332 rfl (by decide +kernel) d_Bh_senseAll_153)) (os_l (so_return rfl d_Bh_senseAll_156)))))))))
abbrev t_Bh_sensed_133 : List UInt8 := 173 :: []
abbrev t_Bh_sensed_132 : List UInt8 := 133 :: t_Bh_sensed_133
abbrev t_Bh_sensed_129 : List UInt8 := 180 :: 1 :: 5 :: t_Bh_sensed_132
abbrev t_Bh_sensed_126 : List UInt8 := 180 :: 0 :: 26 :: t_Bh_sensed_129
abbrev t_Bh_sensed_125 : List UInt8 := 42 :: t_Bh_sensed_126
abbrev t_Bh_sensed_124 : List UInt8 := 173 :: t_Bh_sensed_125
abbrev t_Bh_sensed_123 : List UInt8 := 133 :: t_Bh_sensed_124
abbrev t_Bh_sensed_120 : List UInt8 := 180 :: 1 :: 59 :: t_Bh_sensed_123
abbrev t_Bh_sensed_117 : List UInt8 := 180 :: 0 :: 35 :: t_Bh_sensed_120
abbrev t_Bh_sensed_116 : List UInt8 := 42 :: t_Bh_sensed_117
abbrev t_Bh_sensed_115 : List UInt8 := 173 :: t_Bh_sensed_116
abbrev t_Bh_sensed_112 : List UInt8 := 20 :: 1 :: 46 :: t_Bh_sensed_115
abbrev t_Bh_sensed_109 : List UInt8 := 167 :: 0 :: 6 :: t_Bh_sensed_112
abbrev t_Bh_sensed_108 : List UInt8 := 133 :: t_Bh_sensed_109
abbrev t_Bh_sensed_107 : List UInt8 := 46 :: t_Bh_sensed_108
abbrev t_Bh_sensed_106 : List UInt8 := 28 :: t_Bh_sensed_107
abbrev t_Bh_sensed_103 : List UInt8 := 180 :: 1 :: 56 :: t_Bh_sensed_106
abbrev t_Bh_sensed_100 : List UInt8 := 180 :: 0 :: 26 :: t_Bh_sensed_103
abbrev t_Bh_sensed_99 : List UInt8 := 42 :: t_Bh_sensed_100
abbrev t_Bh_sensed_96 : List UInt8 := 153 :: 0 :: 16 :: t_Bh_sensed_99
abbrev t_Bh_sensed_93 : List UInt8 := 182 :: 1 :: 53 :: t_Bh_sensed_96
abbrev t_Bh_sensed_92 : List UInt8 := 28 :: t_Bh_sensed_93
abbrev t_Bh_sensed_89 : List UInt8 := 180 :: 0 :: 26 :: t_Bh_sensed_92
abbrev t_Bh_sensed_88 : List UInt8 := 42 :: t_Bh_sensed_89
abbrev t_Bh_sensed_87 : List UInt8 := 173 :: t_Bh_sensed_88
abbrev t_Bh_sensed_84 : List UInt8 := 20 :: 1 :: 46 :: t_Bh_sensed_87
abbrev t_Bh_sensed_81 : List UInt8 := 167 :: 0 :: 6 :: t_Bh_sensed_84
abbrev t_Bh_sensed_80 : List UInt8 := 133 :: t_Bh_sensed_81
abbrev t_Bh_sensed_79 : List UInt8 := 46 :: t_Bh_sensed_80
abbrev t_Bh_sensed_78 : List UInt8 := 28 :: t_Bh_sensed_79
abbrev t_Bh_sensed_75 : List UInt8 := 180 :: 0 :: 215 :: t_Bh_sensed_78
abbrev t_Bh_sensed_72 : List UInt8 := 180 :: 0 :: 26 :: t_Bh_sensed_75
abbrev t_Bh_sensed_71 : List UInt8 := 42 :: t_Bh_sensed_72
abbrev t_Bh_sensed_68 : List UInt8 := 153 :: 0 :: 16 :: t_Bh_sensed_71
abbrev t_Bh_sensed_65 : List UInt8 := 182 :: 1 :: 50 :: t_Bh_sensed_68
abbrev t_Bh_sensed_64 : List UInt8 := 28 :: t_Bh_sensed_65
abbrev t_Bh_sensed_61 : List UInt8 := 180 :: 0 :: 26 :: t_Bh_sensed_64
abbrev t_Bh_sensed_60 : List UInt8 := 42 :: t_Bh_sensed_61
abbrev t_Bh_sensed_59 : List UInt8 := 173 :: t_Bh_sensed_60
abbrev t_Bh_sensed_56 : List UInt8 := 20 :: 1 :: 46 :: t_Bh_sensed_59
abbrev t_Bh_sensed_53 : List UInt8 := 167 :: 0 :: 6 :: t_Bh_sensed_56
abbrev t_Bh_sensed_52 : List UInt8 := 133 :: t_Bh_sensed_53
abbrev t_Bh_sensed_51 : List UInt8 := 46 :: t_Bh_sensed_52
abbrev t_Bh_sensed_50 : List UInt8 := 28 :: t_Bh_sensed_51
abbrev t_Bh_sensed_47 : List UInt8 := 180 :: 0 :: 208 :: t_Bh_sensed_50
abbrev t_Bh_sensed_44 : List UInt8 := 180 :: 0 :: 26 :: t_Bh_sensed_47
abbrev t_Bh_sensed_43 : List UInt8 := 42 :: t_Bh_sensed_44
abbrev t_Bh_sensed_40 : List UInt8 := 153 :: 0 :: 16 :: t_Bh_sensed_43
abbrev t_Bh_sensed_37 : List UInt8 := 182 :: 0 :: 196 :: t_Bh_sensed_40
abbrev t_Bh_sensed_36 : List UInt8 := 28 :: t_Bh_sensed_37
abbrev t_Bh_sensed_33 : List UInt8 := 180 :: 0 :: 26 :: t_Bh_sensed_36
abbrev t_Bh_sensed_32 : List UInt8 := 42 :: t_Bh_sensed_33
abbrev t_Bh_sensed_1 : List UInt8 := 170 :: 0 :: 0 :: 0 :: 0 :: 0 :: 124 :: 0 :: 0 :: 0 :: 0 :: 0 :: 0 :: 0 :: 3 :: 0 :: 0 :: 0 :: 31 :: 0 :: 0 :: 0 :: 59 :: 0 :: 0 :: 0 :: 87 :: 0 :: 0 :: 0 :: 115 :: t_Bh_sensed_32
abbrev t_Bh_sensed_0 : List UInt8 := 27 :: t_Bh_sensed_1
theorem a_Bh_sensed_0 : dk_at b_Bh_sensed 0 t_Bh_sensed_0 := dk_start (by decide +kernel)
theorem a_Bh_sensed_1 : dk_at b_Bh_sensed 1 t_Bh_sensed_1 := dk_go 1 a_Bh_sensed_0 rfl
theorem a_Bh_sensed_32 : dk_at b_Bh_sensed 32 t_Bh_sensed_32 := dk_go 31 a_Bh_sensed_1 rfl
theorem a_Bh_sensed_33 : dk_at b_Bh_sensed 33 t_Bh_sensed_33 := dk_go 1 a_Bh_sensed_32 rfl
theorem a_Bh_sensed_36 : dk_at b_Bh_sensed 36 t_Bh_sensed_36 := dk_go 3 a_Bh_sensed_33 rfl
theorem a_Bh_sensed_37 : dk_at b_Bh_sensed 37 t_Bh_sensed_37 := dk_go 1 a_Bh_sensed_36 rfl
theorem a_Bh_sensed_40 : dk_at b_Bh_sensed 40 t_Bh_sensed_40 := dk_go 3 a_Bh_sensed_37 rfl
theorem a_Bh_sensed_43 : dk_at b_Bh_sensed 43 t_Bh_sensed_43 := dk_go 3 a_Bh_sensed_40 rfl
theorem a_Bh_sensed_44 : dk_at b_Bh_sensed 44 t_Bh_sensed_44 := dk_go 1 a_Bh_sensed_43 rfl
theorem a_Bh_sensed_47 : dk_at b_Bh_sensed 47 t_Bh_sensed_47 := dk_go 3 a_Bh_sensed_44 rfl
theorem a_Bh_sensed_50 : dk_at b_Bh_sensed 50 t_Bh_sensed_50 := dk_go 3 a_Bh_sensed_47 rfl
theorem a_Bh_sensed_51 : dk_at b_Bh_sensed 51 t_Bh_sensed_51 := dk_go 1 a_Bh_sensed_50 rfl
theorem a_Bh_sensed_52 : dk_at b_Bh_sensed 52 t_Bh_sensed_52 := dk_go 1 a_Bh_sensed_51 rfl
theorem a_Bh_sensed_53 : dk_at b_Bh_sensed 53 t_Bh_sensed_53 := dk_go 1 a_Bh_sensed_52 rfl
theorem a_Bh_sensed_56 : dk_at b_Bh_sensed 56 t_Bh_sensed_56 := dk_go 3 a_Bh_sensed_53 rfl
theorem a_Bh_sensed_59 : dk_at b_Bh_sensed 59 t_Bh_sensed_59 := dk_go 3 a_Bh_sensed_56 rfl
theorem a_Bh_sensed_60 : dk_at b_Bh_sensed 60 t_Bh_sensed_60 := dk_go 1 a_Bh_sensed_59 rfl
theorem a_Bh_sensed_61 : dk_at b_Bh_sensed 61 t_Bh_sensed_61 := dk_go 1 a_Bh_sensed_60 rfl
theorem a_Bh_sensed_64 : dk_at b_Bh_sensed 64 t_Bh_sensed_64 := dk_go 3 a_Bh_sensed_61 rfl
theorem a_Bh_sensed_65 : dk_at b_Bh_sensed 65 t_Bh_sensed_65 := dk_go 1 a_Bh_sensed_64 rfl
theorem a_Bh_sensed_68 : dk_at b_Bh_sensed 68 t_Bh_sensed_68 := dk_go 3 a_Bh_sensed_65 rfl
theorem a_Bh_sensed_71 : dk_at b_Bh_sensed 71 t_Bh_sensed_71 := dk_go 3 a_Bh_sensed_68 rfl
theorem a_Bh_sensed_72 : dk_at b_Bh_sensed 72 t_Bh_sensed_72 := dk_go 1 a_Bh_sensed_71 rfl
theorem a_Bh_sensed_75 : dk_at b_Bh_sensed 75 t_Bh_sensed_75 := dk_go 3 a_Bh_sensed_72 rfl
theorem a_Bh_sensed_78 : dk_at b_Bh_sensed 78 t_Bh_sensed_78 := dk_go 3 a_Bh_sensed_75 rfl
theorem a_Bh_sensed_79 : dk_at b_Bh_sensed 79 t_Bh_sensed_79 := dk_go 1 a_Bh_sensed_78 rfl
theorem a_Bh_sensed_80 : dk_at b_Bh_sensed 80 t_Bh_sensed_80 := dk_go 1 a_Bh_sensed_79 rfl
theorem a_Bh_sensed_81 : dk_at b_Bh_sensed 81 t_Bh_sensed_81 := dk_go 1 a_Bh_sensed_80 rfl
theorem a_Bh_sensed_84 : dk_at b_Bh_sensed 84 t_Bh_sensed_84 := dk_go 3 a_Bh_sensed_81 rfl
theorem a_Bh_sensed_87 : dk_at b_Bh_sensed 87 t_Bh_sensed_87 := dk_go 3 a_Bh_sensed_84 rfl
theorem a_Bh_sensed_88 : dk_at b_Bh_sensed 88 t_Bh_sensed_88 := dk_go 1 a_Bh_sensed_87 rfl
theorem a_Bh_sensed_89 : dk_at b_Bh_sensed 89 t_Bh_sensed_89 := dk_go 1 a_Bh_sensed_88 rfl
theorem a_Bh_sensed_92 : dk_at b_Bh_sensed 92 t_Bh_sensed_92 := dk_go 3 a_Bh_sensed_89 rfl
theorem a_Bh_sensed_93 : dk_at b_Bh_sensed 93 t_Bh_sensed_93 := dk_go 1 a_Bh_sensed_92 rfl
theorem a_Bh_sensed_96 : dk_at b_Bh_sensed 96 t_Bh_sensed_96 := dk_go 3 a_Bh_sensed_93 rfl
theorem a_Bh_sensed_99 : dk_at b_Bh_sensed 99 t_Bh_sensed_99 := dk_go 3 a_Bh_sensed_96 rfl
theorem a_Bh_sensed_100 : dk_at b_Bh_sensed 100 t_Bh_sensed_100 := dk_go 1 a_Bh_sensed_99 rfl
theorem a_Bh_sensed_103 : dk_at b_Bh_sensed 103 t_Bh_sensed_103 := dk_go 3 a_Bh_sensed_100 rfl
theorem a_Bh_sensed_106 : dk_at b_Bh_sensed 106 t_Bh_sensed_106 := dk_go 3 a_Bh_sensed_103 rfl
theorem a_Bh_sensed_107 : dk_at b_Bh_sensed 107 t_Bh_sensed_107 := dk_go 1 a_Bh_sensed_106 rfl
theorem a_Bh_sensed_108 : dk_at b_Bh_sensed 108 t_Bh_sensed_108 := dk_go 1 a_Bh_sensed_107 rfl
theorem a_Bh_sensed_109 : dk_at b_Bh_sensed 109 t_Bh_sensed_109 := dk_go 1 a_Bh_sensed_108 rfl
theorem a_Bh_sensed_112 : dk_at b_Bh_sensed 112 t_Bh_sensed_112 := dk_go 3 a_Bh_sensed_109 rfl
theorem a_Bh_sensed_115 : dk_at b_Bh_sensed 115 t_Bh_sensed_115 := dk_go 3 a_Bh_sensed_112 rfl
theorem a_Bh_sensed_116 : dk_at b_Bh_sensed 116 t_Bh_sensed_116 := dk_go 1 a_Bh_sensed_115 rfl
theorem a_Bh_sensed_117 : dk_at b_Bh_sensed 117 t_Bh_sensed_117 := dk_go 1 a_Bh_sensed_116 rfl
theorem a_Bh_sensed_120 : dk_at b_Bh_sensed 120 t_Bh_sensed_120 := dk_go 3 a_Bh_sensed_117 rfl
theorem a_Bh_sensed_123 : dk_at b_Bh_sensed 123 t_Bh_sensed_123 := dk_go 3 a_Bh_sensed_120 rfl
theorem a_Bh_sensed_124 : dk_at b_Bh_sensed 124 t_Bh_sensed_124 := dk_go 1 a_Bh_sensed_123 rfl
theorem a_Bh_sensed_125 : dk_at b_Bh_sensed 125 t_Bh_sensed_125 := dk_go 1 a_Bh_sensed_124 rfl
theorem a_Bh_sensed_126 : dk_at b_Bh_sensed 126 t_Bh_sensed_126 := dk_go 1 a_Bh_sensed_125 rfl
theorem a_Bh_sensed_129 : dk_at b_Bh_sensed 129 t_Bh_sensed_129 := dk_go 3 a_Bh_sensed_126 rfl
theorem a_Bh_sensed_132 : dk_at b_Bh_sensed 132 t_Bh_sensed_132 := dk_go 3 a_Bh_sensed_129 rfl
theorem a_Bh_sensed_133 : dk_at b_Bh_sensed 133 t_Bh_sensed_133 := dk_go 1 a_Bh_sensed_132 rfl
theorem d_Bh_sensed_0 : decode b_Bh_sensed 0 = .ok (.iload_n 1, 1) := dk_0 a_Bh_sensed_0 (dko_27 _)
theorem d_Bh_sensed_1 : decode b_Bh_sensed 1 = .ok (.tableswitch 124 0 3 #[31, 59, 87, 115], 31) := by decide +kernel
theorem d_Bh_sensed_32 : decode b_Bh_sensed 32 = .ok (.aload_n 0, 1) := dk_0 a_Bh_sensed_32 (dko_42 _)
theorem d_Bh_sensed_33 : decode b_Bh_sensed 33 = .ok (.getfield 26, 3) := dk_U2 a_Bh_sensed_33 (dko_180 _) rfl
theorem d_Bh_sensed_36 : decode b_Bh_sensed 36 = .ok (.iload_n 2, 1) := dk_0 a_Bh_sensed_36 (dko_28 _)
theorem d_Bh_sensed_37 : decode b_Bh_sensed 37 = .ok (.invokevirtual 196, 3) := dk_U2 a_Bh_sensed_37 (dko_182 _) rfl
theorem d_Bh_sensed_40 : decode b_Bh_sensed 40 = .ok (.ifCond .eq 16, 3) := dk_S2 a_Bh_sensed_40 (dko_153 _) (by decide +kernel)
theorem d_Bh_sensed_43 : decode b_Bh_sensed 43 = .ok (.aload_n 0, 1) := dk_0 a_Bh_sensed_43 (dko_42 _)
theorem d_Bh_sensed_44 : decode b_Bh_sensed 44 = .ok (.getfield 26, 3) := dk_U2 a_Bh_sensed_44 (dko_180 _) rfl
theorem d_Bh_sensed_47 : decode b_Bh_sensed 47 = .ok (.getfield 208, 3) := dk_U2 a_Bh_sensed_47 (dko_180 _) rfl
theorem d_Bh_sensed_50 : decode b_Bh_sensed 50 = .ok (.iload_n 2, 1) := dk_0 a_Bh_sensed_50 (dko_28 _)
theorem d_Bh_sensed_51 : decode b_Bh_sensed 51 = .ok (.iaload, 1) := dk_0 a_Bh_sensed_51 (dko_46 _)
theorem d_Bh_sensed_52 : decode b_Bh_sensed 52 = .ok (.i2l, 1) := dk_0 a_Bh_sensed_52 (dko_133 _)
theorem d_Bh_sensed_53 : decode b_Bh_sensed 53 = .ok (.goto 6, 3) := dk_S2 a_Bh_sensed_53 (dko_167 _) (by decide +kernel)
theorem d_Bh_sensed_56 : decode b_Bh_sensed 56 = .ok (.ldc2_w 302, 3) := dk_U2 a_Bh_sensed_56 (dko_20 _) rfl
theorem d_Bh_sensed_59 : decode b_Bh_sensed 59 = .ok (.lreturn, 1) := dk_0 a_Bh_sensed_59 (dko_173 _)
theorem d_Bh_sensed_60 : decode b_Bh_sensed 60 = .ok (.aload_n 0, 1) := dk_0 a_Bh_sensed_60 (dko_42 _)
theorem d_Bh_sensed_61 : decode b_Bh_sensed 61 = .ok (.getfield 26, 3) := dk_U2 a_Bh_sensed_61 (dko_180 _) rfl
theorem d_Bh_sensed_64 : decode b_Bh_sensed 64 = .ok (.iload_n 2, 1) := dk_0 a_Bh_sensed_64 (dko_28 _)
theorem d_Bh_sensed_65 : decode b_Bh_sensed 65 = .ok (.invokevirtual 306, 3) := dk_U2 a_Bh_sensed_65 (dko_182 _) rfl
theorem d_Bh_sensed_68 : decode b_Bh_sensed 68 = .ok (.ifCond .eq 16, 3) := dk_S2 a_Bh_sensed_68 (dko_153 _) (by decide +kernel)
theorem d_Bh_sensed_71 : decode b_Bh_sensed 71 = .ok (.aload_n 0, 1) := dk_0 a_Bh_sensed_71 (dko_42 _)
theorem d_Bh_sensed_72 : decode b_Bh_sensed 72 = .ok (.getfield 26, 3) := dk_U2 a_Bh_sensed_72 (dko_180 _) rfl
theorem d_Bh_sensed_75 : decode b_Bh_sensed 75 = .ok (.getfield 215, 3) := dk_U2 a_Bh_sensed_75 (dko_180 _) rfl
theorem d_Bh_sensed_78 : decode b_Bh_sensed 78 = .ok (.iload_n 2, 1) := dk_0 a_Bh_sensed_78 (dko_28 _)
theorem d_Bh_sensed_79 : decode b_Bh_sensed 79 = .ok (.iaload, 1) := dk_0 a_Bh_sensed_79 (dko_46 _)
theorem d_Bh_sensed_80 : decode b_Bh_sensed 80 = .ok (.i2l, 1) := dk_0 a_Bh_sensed_80 (dko_133 _)
theorem d_Bh_sensed_81 : decode b_Bh_sensed 81 = .ok (.goto 6, 3) := dk_S2 a_Bh_sensed_81 (dko_167 _) (by decide +kernel)
theorem d_Bh_sensed_84 : decode b_Bh_sensed 84 = .ok (.ldc2_w 302, 3) := dk_U2 a_Bh_sensed_84 (dko_20 _) rfl
theorem d_Bh_sensed_87 : decode b_Bh_sensed 87 = .ok (.lreturn, 1) := dk_0 a_Bh_sensed_87 (dko_173 _)
theorem d_Bh_sensed_88 : decode b_Bh_sensed 88 = .ok (.aload_n 0, 1) := dk_0 a_Bh_sensed_88 (dko_42 _)
theorem d_Bh_sensed_89 : decode b_Bh_sensed 89 = .ok (.getfield 26, 3) := dk_U2 a_Bh_sensed_89 (dko_180 _) rfl
theorem d_Bh_sensed_92 : decode b_Bh_sensed 92 = .ok (.iload_n 2, 1) := dk_0 a_Bh_sensed_92 (dko_28 _)
theorem d_Bh_sensed_93 : decode b_Bh_sensed 93 = .ok (.invokevirtual 309, 3) := dk_U2 a_Bh_sensed_93 (dko_182 _) rfl
theorem d_Bh_sensed_96 : decode b_Bh_sensed 96 = .ok (.ifCond .eq 16, 3) := dk_S2 a_Bh_sensed_96 (dko_153 _) (by decide +kernel)
theorem d_Bh_sensed_99 : decode b_Bh_sensed 99 = .ok (.aload_n 0, 1) := dk_0 a_Bh_sensed_99 (dko_42 _)
theorem d_Bh_sensed_100 : decode b_Bh_sensed 100 = .ok (.getfield 26, 3) := dk_U2 a_Bh_sensed_100 (dko_180 _) rfl
theorem d_Bh_sensed_103 : decode b_Bh_sensed 103 = .ok (.getfield 312, 3) := dk_U2 a_Bh_sensed_103 (dko_180 _) rfl
theorem d_Bh_sensed_106 : decode b_Bh_sensed 106 = .ok (.iload_n 2, 1) := dk_0 a_Bh_sensed_106 (dko_28 _)
theorem d_Bh_sensed_107 : decode b_Bh_sensed 107 = .ok (.iaload, 1) := dk_0 a_Bh_sensed_107 (dko_46 _)
theorem d_Bh_sensed_108 : decode b_Bh_sensed 108 = .ok (.i2l, 1) := dk_0 a_Bh_sensed_108 (dko_133 _)
theorem d_Bh_sensed_109 : decode b_Bh_sensed 109 = .ok (.goto 6, 3) := dk_S2 a_Bh_sensed_109 (dko_167 _) (by decide +kernel)
theorem d_Bh_sensed_112 : decode b_Bh_sensed 112 = .ok (.ldc2_w 302, 3) := dk_U2 a_Bh_sensed_112 (dko_20 _) rfl
theorem d_Bh_sensed_115 : decode b_Bh_sensed 115 = .ok (.lreturn, 1) := dk_0 a_Bh_sensed_115 (dko_173 _)
theorem d_Bh_sensed_116 : decode b_Bh_sensed 116 = .ok (.aload_n 0, 1) := dk_0 a_Bh_sensed_116 (dko_42 _)
theorem d_Bh_sensed_117 : decode b_Bh_sensed 117 = .ok (.getfield 35, 3) := dk_U2 a_Bh_sensed_117 (dko_180 _) rfl
theorem d_Bh_sensed_120 : decode b_Bh_sensed 120 = .ok (.getfield 315, 3) := dk_U2 a_Bh_sensed_120 (dko_180 _) rfl
theorem d_Bh_sensed_123 : decode b_Bh_sensed 123 = .ok (.i2l, 1) := dk_0 a_Bh_sensed_123 (dko_133 _)
theorem d_Bh_sensed_124 : decode b_Bh_sensed 124 = .ok (.lreturn, 1) := dk_0 a_Bh_sensed_124 (dko_173 _)
theorem d_Bh_sensed_125 : decode b_Bh_sensed 125 = .ok (.aload_n 0, 1) := dk_0 a_Bh_sensed_125 (dko_42 _)
theorem d_Bh_sensed_126 : decode b_Bh_sensed 126 = .ok (.getfield 26, 3) := dk_U2 a_Bh_sensed_126 (dko_180 _) rfl
theorem d_Bh_sensed_129 : decode b_Bh_sensed 129 = .ok (.getfield 261, 3) := dk_U2 a_Bh_sensed_129 (dko_180 _) rfl
theorem d_Bh_sensed_132 : decode b_Bh_sensed 132 = .ok (.i2l, 1) := dk_0 a_Bh_sensed_132 (dko_133 _)
theorem d_Bh_sensed_133 : decode b_Bh_sensed 133 = .ok (.lreturn, 1) := dk_0 a_Bh_sensed_133 (dko_173 _)
set_option maxHeartbeats 4000000 in
set_option maxRecDepth 100000 in
theorem ok_Bh_sensed (pc : Nat) : OpS mt mi_Bh_sensed pc (cs_Bh_sensed pc) := (os_n (os_n (os_n (os_n (os_n (os_l (so_iload_n d_Bh_sensed_0 rfl)) (os_n (os_l (so_tab d_Bh_sensed_1 (by decide) (by decide) (by decide))) (os_l (so_aload_n d_Bh_sensed_32 rfl)))) (os_n (os_l (so_get (C := R_Bh) (T := F_Bh) (N := 16) (j := 2) in_Bh rfl (by decide) mw_686 d_Bh_sensed_33)) (os_n (os_l (so_iload_n d_Bh_sensed_36 rfl)) (os_l (so_callV (iv := mi_St_isTank) rfl rfl rfl mw_1075 mw_1076 mw_1077 mw_4 mw_1078 ⟨by decide +kernel, by decide +kernel, by decide +kernel⟩ (by decide) d_Bh_sensed_37))))) (os_n (os_n (os_l (so_ifeq d_Bh_sensed_40 (by decide))) (os_n (os_l (so_aload_n d_Bh_sensed_43 rfl)) (os_l (so_get (C := R_Bh) (T := F_Bh) (N := 16) (j := 2) in_Bh rfl (by decide) mw_686 d_Bh_sensed_44)))) (os_n (os_n (os_l (so_get (C := R_St) (T := F_St) (N := 12) (j := 4) in_St rfl (by decide) mw_168 d_Bh_sensed_47)) (os_l (so_iload_n d_Bh_sensed_50 rfl))) (os_n (os_l (so_iaload d_Bh_sensed_51)) (os_l (so_i2l d_Bh_sensed_52)))))) (os_n (os_n (os_n (os_l (so_goto d_Bh_sensed_53 (by decide))) (os_n (os_l (so_ldc2 mw_1331 d_Bh_sensed_56)) (os_l (so_lreturn rfl d_Bh_sensed_59)))) (os_n (os_n (os_l (so_aload_n d_Bh_sensed_60 rfl)) (os_l (so_get (C := R_Bh) (T := F_Bh) (N := 16) (j := 2) in_Bh rfl (by decide) mw_686 d_Bh_sensed_61))) (os_n (os_l (so_iload_n d_Bh_sensed_64 rfl)) (os_l (so_callV (iv := mi_St_isHolder) rfl rfl rfl mw_1332 mw_1200 mw_1201 mw_4 mw_1202 ⟨by decide +kernel, by decide +kernel, by decide +kernel⟩ (by decide) d_Bh_sensed_65))))) (os_n (os_n (os_l (so_ifeq d_Bh_sensed_68 (by decide))) (os_n (os_l (so_aload_n d_Bh_sensed_71 rfl)) (os_l (so_get (C := R_Bh) (T := F_Bh) (N := 16) (j := 2) in_Bh rfl (by decide) mw_686 d_Bh_sensed_72)))) (os_n (os_n (os_l (so_get (C := R_St) (T := F_St) (N := 12) (j := 3) in_St rfl (by decide) mw_165 d_Bh_sensed_75)) (os_l (so_iload_n d_Bh_sensed_78 rfl))) (os_n (os_l (so_iaload d_Bh_sensed_79)) (os_l (so_i2l d_Bh_sensed_80))))))) (os_n (os_n (os_n (os_n (os_l (so_goto d_Bh_sensed_81 (by decide))) (os_n (os_l (so_ldc2 mw_1331 d_Bh_sensed_84)) (os_l (so_lreturn rfl d_Bh_sensed_87)))) (os_n (os_l (so_aload_n d_Bh_sensed_88 rfl)) (os_n (os_l (so_get (C := R_Bh) (T := F_Bh) (N := 16) (j := 2) in_Bh rfl (by decide) mw_686 d_Bh_sensed_89)) (os_l (so_iload_n d_Bh_sensed_92 rfl))))) (os_n (os_n (os_l (so_callV (iv := mi_St_isValve) rfl rfl rfl mw_1333 mw_1196 mw_1197 mw_4 mw_1198 ⟨by decide +kernel, by decide +kernel, by decide +kernel⟩ (by decide) d_Bh_sensed_93)) (os_n (os_l (so_ifeq d_Bh_sensed_96 (by decide))) (os_l (so_aload_n d_Bh_sensed_99 rfl)))) (os_n (os_n (os_l (so_get (C := R_Bh) (T := F_Bh) (N := 16) (j := 2) in_Bh rfl (by decide) mw_686 d_Bh_sensed_100)) (os_l (so_get (C := R_St) (T := F_St) (N := 12) (j := 2) in_St rfl (by decide) mw_161 d_Bh_sensed_103))) (os_n (os_l (so_iload_n d_Bh_sensed_106 rfl)) (os_l (so_iaload d_Bh_sensed_107)))))) (os_n (os_n (os_n (os_l (so_i2l d_Bh_sensed_108)) (os_n (os_l (so_goto d_Bh_sensed_109 (by decide))) (os_l (so_ldc2 mw_1331 d_Bh_sensed_112)))) (os_n (os_n (os_l (so_lreturn rfl d_Bh_sensed_115)) (os_l (so_aload_n d_Bh_sensed_116 rfl))) (os_n (os_l (so_get (C := R_Bh) (T := F_Bh) (N := 16) (j := 3) in_Bh rfl (by decide) mw_687 d_Bh_sensed_117)) (os_l (so_get (C := R_Wa) (T := F_Wa) (N := 18) (j := 1) in_Wa rfl (by decide) mw_219 d_Bh_sensed_120))))) (os_n (os_n (os_l (so_i2l d_Bh_sensed_123)) (os_n (os_l (so_lreturn rfl d_Bh_sensed_124)) (os_l (so_aload_n d_Bh_sensed_125 rfl)))) (os_n (os_n (os_l (so_get (C := R_Bh) (T := F_Bh) (N := 16) (j := 2) in_Bh rfl (by decide) mw_686 d_Bh_sensed_126)) (os_l (so_get (C := R_St) (T := F_St) (N := 12) (j := 1) in_St rfl (by decide) mw_156 d_Bh_sensed_129))) (os_n (os_l (so_i2l d_Bh_sensed_132)) (os_l (so_lreturn rfl d_Bh_sensed_133))))))))
abbrev t_Bh_answer_8 : List UInt8 := 172 :: []
abbrev t_Bh_answer_5 : List UInt8 := 182 :: 1 :: 60 :: t_Bh_answer_8
abbrev t_Bh_answer_4 : List UInt8 := 31 :: t_Bh_answer_5
abbrev t_Bh_answer_1 : List UInt8 := 180 :: 0 :: 62 :: t_Bh_answer_4
abbrev t_Bh_answer_0 : List UInt8 := 42 :: t_Bh_answer_1
theorem a_Bh_answer_0 : dk_at b_Bh_answer 0 t_Bh_answer_0 := dk_start (by decide +kernel)
theorem a_Bh_answer_1 : dk_at b_Bh_answer 1 t_Bh_answer_1 := dk_go 1 a_Bh_answer_0 rfl
theorem a_Bh_answer_4 : dk_at b_Bh_answer 4 t_Bh_answer_4 := dk_go 3 a_Bh_answer_1 rfl
theorem a_Bh_answer_5 : dk_at b_Bh_answer 5 t_Bh_answer_5 := dk_go 1 a_Bh_answer_4 rfl
theorem a_Bh_answer_8 : dk_at b_Bh_answer 8 t_Bh_answer_8 := dk_go 3 a_Bh_answer_5 rfl
theorem d_Bh_answer_0 : decode b_Bh_answer 0 = .ok (.aload_n 0, 1) := dk_0 a_Bh_answer_0 (dko_42 _)
theorem d_Bh_answer_1 : decode b_Bh_answer 1 = .ok (.getfield 62, 3) := dk_U2 a_Bh_answer_1 (dko_180 _) rfl
theorem d_Bh_answer_4 : decode b_Bh_answer 4 = .ok (.lload_n 1, 1) := dk_0 a_Bh_answer_4 (dko_31 _)
theorem d_Bh_answer_5 : decode b_Bh_answer 5 = .ok (.invokevirtual 316, 3) := dk_U2 a_Bh_answer_5 (dko_182 _) rfl
theorem d_Bh_answer_8 : decode b_Bh_answer 8 = .ok (.ireturn, 1) := dk_0 a_Bh_answer_8 (dko_172 _)
set_option maxHeartbeats 4000000 in
set_option maxRecDepth 100000 in
theorem ok_Bh_answer (pc : Nat) : OpS mt mi_Bh_answer pc (cs_Bh_answer pc) := (os_n (os_n (os_l (so_aload_n d_Bh_answer_0 rfl)) (os_l (so_get (C := R_Bh) (T := F_Bh) (N := 16) (j := 6) in_Bh rfl (by decide) mw_690 d_Bh_answer_1))) (os_n (os_l (so_lload_n d_Bh_answer_4 rfl)) (os_n (os_l (so_callV (iv := mi_Ru_giveAnswer) rfl rfl rfl mw_1472 mw_1473 mw_1474 mw_11 mw_1475 ⟨by decide +kernel, by decide +kernel, by decide +kernel⟩ (by decide) d_Bh_answer_5)) (os_l (so_zreturn rfl d_Bh_answer_8)))))
abbrev t_Bh_hold_49 : List UInt8 := 172 :: []
abbrev t_Bh_hold_48 : List UInt8 := 4 :: t_Bh_hold_49
abbrev t_Bh_hold_45 : List UInt8 := 182 :: 0 :: 190 :: t_Bh_hold_48
abbrev t_Bh_hold_42 : List UInt8 := 180 :: 0 :: 35 :: t_Bh_hold_45
abbrev t_Bh_hold_41 : List UInt8 := 42 :: t_Bh_hold_42
abbrev t_Bh_hold_38 : List UInt8 := 153 :: 0 :: 10 :: t_Bh_hold_41
abbrev t_Bh_hold_37 : List UInt8 := 27 :: t_Bh_hold_38
abbrev t_Bh_hold_34 : List UInt8 := 181 :: 0 :: 161 :: t_Bh_hold_37
abbrev t_Bh_hold_33 : List UInt8 := 3 :: t_Bh_hold_34
abbrev t_Bh_hold_30 : List UInt8 := 167 :: 0 :: 4 :: t_Bh_hold_33
abbrev t_Bh_hold_29 : List UInt8 := 5 :: t_Bh_hold_30
abbrev t_Bh_hold_26 : List UInt8 := 153 :: 0 :: 7 :: t_Bh_hold_29
abbrev t_Bh_hold_25 : List UInt8 := 27 :: t_Bh_hold_26
abbrev t_Bh_hold_22 : List UInt8 := 180 :: 0 :: 62 :: t_Bh_hold_25
abbrev t_Bh_hold_21 : List UInt8 := 42 :: t_Bh_hold_22
abbrev t_Bh_hold_20 : List UInt8 := 172 :: t_Bh_hold_21
abbrev t_Bh_hold_19 : List UInt8 := 3 :: t_Bh_hold_20
abbrev t_Bh_hold_16 : List UInt8 := 159 :: 0 :: 5 :: t_Bh_hold_19
abbrev t_Bh_hold_15 : List UInt8 := 5 :: t_Bh_hold_16
abbrev t_Bh_hold_12 : List UInt8 := 167 :: 0 :: 4 :: t_Bh_hold_15
abbrev t_Bh_hold_11 : List UInt8 := 3 :: t_Bh_hold_12
abbrev t_Bh_hold_8 : List UInt8 := 153 :: 0 :: 7 :: t_Bh_hold_11
abbrev t_Bh_hold_7 : List UInt8 := 27 :: t_Bh_hold_8
abbrev t_Bh_hold_4 : List UInt8 := 180 :: 0 :: 161 :: t_Bh_hold_7
abbrev t_Bh_hold_1 : List UInt8 := 180 :: 0 :: 62 :: t_Bh_hold_4
abbrev t_Bh_hold_0 : List UInt8 := 42 :: t_Bh_hold_1
theorem a_Bh_hold_0 : dk_at b_Bh_hold 0 t_Bh_hold_0 := dk_start (by decide +kernel)
theorem a_Bh_hold_1 : dk_at b_Bh_hold 1 t_Bh_hold_1 := dk_go 1 a_Bh_hold_0 rfl
theorem a_Bh_hold_4 : dk_at b_Bh_hold 4 t_Bh_hold_4 := dk_go 3 a_Bh_hold_1 rfl
theorem a_Bh_hold_7 : dk_at b_Bh_hold 7 t_Bh_hold_7 := dk_go 3 a_Bh_hold_4 rfl
theorem a_Bh_hold_8 : dk_at b_Bh_hold 8 t_Bh_hold_8 := dk_go 1 a_Bh_hold_7 rfl
theorem a_Bh_hold_11 : dk_at b_Bh_hold 11 t_Bh_hold_11 := dk_go 3 a_Bh_hold_8 rfl
theorem a_Bh_hold_12 : dk_at b_Bh_hold 12 t_Bh_hold_12 := dk_go 1 a_Bh_hold_11 rfl
theorem a_Bh_hold_15 : dk_at b_Bh_hold 15 t_Bh_hold_15 := dk_go 3 a_Bh_hold_12 rfl
theorem a_Bh_hold_16 : dk_at b_Bh_hold 16 t_Bh_hold_16 := dk_go 1 a_Bh_hold_15 rfl
theorem a_Bh_hold_19 : dk_at b_Bh_hold 19 t_Bh_hold_19 := dk_go 3 a_Bh_hold_16 rfl
theorem a_Bh_hold_20 : dk_at b_Bh_hold 20 t_Bh_hold_20 := dk_go 1 a_Bh_hold_19 rfl
theorem a_Bh_hold_21 : dk_at b_Bh_hold 21 t_Bh_hold_21 := dk_go 1 a_Bh_hold_20 rfl
theorem a_Bh_hold_22 : dk_at b_Bh_hold 22 t_Bh_hold_22 := dk_go 1 a_Bh_hold_21 rfl
theorem a_Bh_hold_25 : dk_at b_Bh_hold 25 t_Bh_hold_25 := dk_go 3 a_Bh_hold_22 rfl
theorem a_Bh_hold_26 : dk_at b_Bh_hold 26 t_Bh_hold_26 := dk_go 1 a_Bh_hold_25 rfl
theorem a_Bh_hold_29 : dk_at b_Bh_hold 29 t_Bh_hold_29 := dk_go 3 a_Bh_hold_26 rfl
theorem a_Bh_hold_30 : dk_at b_Bh_hold 30 t_Bh_hold_30 := dk_go 1 a_Bh_hold_29 rfl
theorem a_Bh_hold_33 : dk_at b_Bh_hold 33 t_Bh_hold_33 := dk_go 3 a_Bh_hold_30 rfl
theorem a_Bh_hold_34 : dk_at b_Bh_hold 34 t_Bh_hold_34 := dk_go 1 a_Bh_hold_33 rfl
theorem a_Bh_hold_37 : dk_at b_Bh_hold 37 t_Bh_hold_37 := dk_go 3 a_Bh_hold_34 rfl
theorem a_Bh_hold_38 : dk_at b_Bh_hold 38 t_Bh_hold_38 := dk_go 1 a_Bh_hold_37 rfl
theorem a_Bh_hold_41 : dk_at b_Bh_hold 41 t_Bh_hold_41 := dk_go 3 a_Bh_hold_38 rfl
theorem a_Bh_hold_42 : dk_at b_Bh_hold 42 t_Bh_hold_42 := dk_go 1 a_Bh_hold_41 rfl
theorem a_Bh_hold_45 : dk_at b_Bh_hold 45 t_Bh_hold_45 := dk_go 3 a_Bh_hold_42 rfl
theorem a_Bh_hold_48 : dk_at b_Bh_hold 48 t_Bh_hold_48 := dk_go 3 a_Bh_hold_45 rfl
theorem a_Bh_hold_49 : dk_at b_Bh_hold 49 t_Bh_hold_49 := dk_go 1 a_Bh_hold_48 rfl
theorem d_Bh_hold_0 : decode b_Bh_hold 0 = .ok (.aload_n 0, 1) := dk_0 a_Bh_hold_0 (dko_42 _)
theorem d_Bh_hold_1 : decode b_Bh_hold 1 = .ok (.getfield 62, 3) := dk_U2 a_Bh_hold_1 (dko_180 _) rfl
theorem d_Bh_hold_4 : decode b_Bh_hold 4 = .ok (.getfield 161, 3) := dk_U2 a_Bh_hold_4 (dko_180 _) rfl
theorem d_Bh_hold_7 : decode b_Bh_hold 7 = .ok (.iload_n 1, 1) := dk_0 a_Bh_hold_7 (dko_27 _)
theorem d_Bh_hold_8 : decode b_Bh_hold 8 = .ok (.ifCond .eq 7, 3) := dk_S2 a_Bh_hold_8 (dko_153 _) (by decide +kernel)
theorem d_Bh_hold_11 : decode b_Bh_hold 11 = .ok (.iconst 0, 1) := dk_0 a_Bh_hold_11 (dko_3 _)
theorem d_Bh_hold_12 : decode b_Bh_hold 12 = .ok (.goto 4, 3) := dk_S2 a_Bh_hold_12 (dko_167 _) (by decide +kernel)
theorem d_Bh_hold_15 : decode b_Bh_hold 15 = .ok (.iconst 2, 1) := dk_0 a_Bh_hold_15 (dko_5 _)
theorem d_Bh_hold_16 : decode b_Bh_hold 16 = .ok (.if_icmp .eq 5, 3) := dk_S2 a_Bh_hold_16 (dko_159 _) (by decide +kernel)
theorem d_Bh_hold_19 : decode b_Bh_hold 19 = .ok (.iconst 0, 1) := dk_0 a_Bh_hold_19 (dko_3 _)
theorem d_Bh_hold_20 : decode b_Bh_hold 20 = .ok (.ireturn, 1) := dk_0 a_Bh_hold_20 (dko_172 _)
theorem d_Bh_hold_21 : decode b_Bh_hold 21 = .ok (.aload_n 0, 1) := dk_0 a_Bh_hold_21 (dko_42 _)
theorem d_Bh_hold_22 : decode b_Bh_hold 22 = .ok (.getfield 62, 3) := dk_U2 a_Bh_hold_22 (dko_180 _) rfl
theorem d_Bh_hold_25 : decode b_Bh_hold 25 = .ok (.iload_n 1, 1) := dk_0 a_Bh_hold_25 (dko_27 _)
theorem d_Bh_hold_26 : decode b_Bh_hold 26 = .ok (.ifCond .eq 7, 3) := dk_S2 a_Bh_hold_26 (dko_153 _) (by decide +kernel)
theorem d_Bh_hold_29 : decode b_Bh_hold 29 = .ok (.iconst 2, 1) := dk_0 a_Bh_hold_29 (dko_5 _)
theorem d_Bh_hold_30 : decode b_Bh_hold 30 = .ok (.goto 4, 3) := dk_S2 a_Bh_hold_30 (dko_167 _) (by decide +kernel)
theorem d_Bh_hold_33 : decode b_Bh_hold 33 = .ok (.iconst 0, 1) := dk_0 a_Bh_hold_33 (dko_3 _)
theorem d_Bh_hold_34 : decode b_Bh_hold 34 = .ok (.putfield 161, 3) := dk_U2 a_Bh_hold_34 (dko_181 _) rfl
theorem d_Bh_hold_37 : decode b_Bh_hold 37 = .ok (.iload_n 1, 1) := dk_0 a_Bh_hold_37 (dko_27 _)
theorem d_Bh_hold_38 : decode b_Bh_hold 38 = .ok (.ifCond .eq 10, 3) := dk_S2 a_Bh_hold_38 (dko_153 _) (by decide +kernel)
theorem d_Bh_hold_41 : decode b_Bh_hold 41 = .ok (.aload_n 0, 1) := dk_0 a_Bh_hold_41 (dko_42 _)
theorem d_Bh_hold_42 : decode b_Bh_hold 42 = .ok (.getfield 35, 3) := dk_U2 a_Bh_hold_42 (dko_180 _) rfl
theorem d_Bh_hold_45 : decode b_Bh_hold 45 = .ok (.invokevirtual 190, 3) := dk_U2 a_Bh_hold_45 (dko_182 _) rfl
theorem d_Bh_hold_48 : decode b_Bh_hold 48 = .ok (.iconst 1, 1) := dk_0 a_Bh_hold_48 (dko_4 _)
theorem d_Bh_hold_49 : decode b_Bh_hold 49 = .ok (.ireturn, 1) := dk_0 a_Bh_hold_49 (dko_172 _)
set_option maxHeartbeats 4000000 in
set_option maxRecDepth 100000 in
theorem ok_Bh_hold (pc : Nat) : OpS mt mi_Bh_hold pc (cs_Bh_hold pc) := (os_n (os_n (os_n (os_n (os_l (so_aload_n d_Bh_hold_0 rfl)) (os_n (os_l (so_get (C := R_Bh) (T := F_Bh) (N := 16) (j := 6) in_Bh rfl (by decide) mw_690 d_Bh_hold_1)) (os_l (so_get (C := R_Ru) (T := F_Ru) (N := 21) (j := 4) in_Ru rfl (by decide) mw_517 d_Bh_hold_4)))) (os_n (os_l (so_iload_n d_Bh_hold_7 rfl)) (os_n (os_l (so_ifeq d_Bh_hold_8 (by decide))) (os_l (so_iconst d_Bh_hold_11 (by decide)))))) (os_n (os_n (os_l (so_goto d_Bh_hold_12 (by decide))) (os_n (os_l (so_iconst d_Bh_hold_15 (by decide))) (os_l (so_iceq d_Bh_hold_16 (by decide))))) (os_n (os_n (os_l (so_iconst d_Bh_hold_19 (by decide))) (os_l (so_zreturn rfl d_Bh_hold_20))) (os_n (os_l (so_aload_n d_Bh_hold_21 rfl)) (os_l (so_get (C := R_Bh) (T := F_Bh) (N := 16) (j := 6) in_Bh rfl (by decide) mw_690 d_Bh_hold_22)))))) (os_n (os_n (os_n (os_l (so_iload_n d_Bh_hold_25 rfl)) (os_n (os_l (so_ifeq d_Bh_hold_26 (by decide))) (os_l (so_iconst d_Bh_hold_29 (by decide))))) (os_n (os_l (so_goto d_Bh_hold_30 (by decide))) (os_n (os_l (so_iconst d_Bh_hold_33 (by decide))) (os_l (so_putI (C := R_Ru) (T := F_Ru) (N := 21) (j := 4) in_Ru t_Ru_ok n_Ru rfl (by decide) mw_517 rfl (by decide +kernel) d_Bh_hold_34))))) (os_n (os_n (os_l (so_iload_n d_Bh_hold_37 rfl)) (os_n (os_l (so_ifeq d_Bh_hold_38 (by decide))) (os_l (so_aload_n d_Bh_hold_41 rfl)))) (os_n (os_n (os_l (so_get (C := R_Bh) (T := F_Bh) (N := 16) (j := 3) in_Bh rfl (by decide) mw_687 d_Bh_hold_42)) (os_l (so_callV (iv := mi_Wa_closeAll) rfl rfl rfl mw_1063 mw_1064 mw_1065 mw_7 mw_1066 ⟨by decide +kernel, by decide +kernel, by decide +kernel⟩ (by decide) d_Bh_hold_45))) (os_n (os_l (so_iconst d_Bh_hold_48 (by decide))) (os_l (so_zreturn rfl d_Bh_hold_49)))))))
abbrev t_Bh_stop_28 : List UInt8 := 172 :: []
abbrev t_Bh_stop_27 : List UInt8 := 4 :: t_Bh_stop_28
abbrev t_Bh_stop_24 : List UInt8 := 182 :: 0 :: 190 :: t_Bh_stop_27
abbrev t_Bh_stop_21 : List UInt8 := 180 :: 0 :: 35 :: t_Bh_stop_24
abbrev t_Bh_stop_20 : List UInt8 := 42 :: t_Bh_stop_21
abbrev t_Bh_stop_17 : List UInt8 := 181 :: 0 :: 161 :: t_Bh_stop_20
abbrev t_Bh_stop_16 : List UInt8 := 6 :: t_Bh_stop_17
abbrev t_Bh_stop_13 : List UInt8 := 180 :: 0 :: 62 :: t_Bh_stop_16
abbrev t_Bh_stop_12 : List UInt8 := 42 :: t_Bh_stop_13
abbrev t_Bh_stop_11 : List UInt8 := 172 :: t_Bh_stop_12
abbrev t_Bh_stop_10 : List UInt8 := 3 :: t_Bh_stop_11
abbrev t_Bh_stop_7 : List UInt8 := 154 :: 0 :: 5 :: t_Bh_stop_10
abbrev t_Bh_stop_4 : List UInt8 := 182 :: 1 :: 14 :: t_Bh_stop_7
abbrev t_Bh_stop_1 : List UInt8 := 180 :: 0 :: 62 :: t_Bh_stop_4
abbrev t_Bh_stop_0 : List UInt8 := 42 :: t_Bh_stop_1
theorem a_Bh_stop_0 : dk_at b_Bh_stop 0 t_Bh_stop_0 := dk_start (by decide +kernel)
theorem a_Bh_stop_1 : dk_at b_Bh_stop 1 t_Bh_stop_1 := dk_go 1 a_Bh_stop_0 rfl
theorem a_Bh_stop_4 : dk_at b_Bh_stop 4 t_Bh_stop_4 := dk_go 3 a_Bh_stop_1 rfl
theorem a_Bh_stop_7 : dk_at b_Bh_stop 7 t_Bh_stop_7 := dk_go 3 a_Bh_stop_4 rfl
theorem a_Bh_stop_10 : dk_at b_Bh_stop 10 t_Bh_stop_10 := dk_go 3 a_Bh_stop_7 rfl
theorem a_Bh_stop_11 : dk_at b_Bh_stop 11 t_Bh_stop_11 := dk_go 1 a_Bh_stop_10 rfl
theorem a_Bh_stop_12 : dk_at b_Bh_stop 12 t_Bh_stop_12 := dk_go 1 a_Bh_stop_11 rfl
theorem a_Bh_stop_13 : dk_at b_Bh_stop 13 t_Bh_stop_13 := dk_go 1 a_Bh_stop_12 rfl
theorem a_Bh_stop_16 : dk_at b_Bh_stop 16 t_Bh_stop_16 := dk_go 3 a_Bh_stop_13 rfl
theorem a_Bh_stop_17 : dk_at b_Bh_stop 17 t_Bh_stop_17 := dk_go 1 a_Bh_stop_16 rfl
theorem a_Bh_stop_20 : dk_at b_Bh_stop 20 t_Bh_stop_20 := dk_go 3 a_Bh_stop_17 rfl
theorem a_Bh_stop_21 : dk_at b_Bh_stop 21 t_Bh_stop_21 := dk_go 1 a_Bh_stop_20 rfl
theorem a_Bh_stop_24 : dk_at b_Bh_stop 24 t_Bh_stop_24 := dk_go 3 a_Bh_stop_21 rfl
theorem a_Bh_stop_27 : dk_at b_Bh_stop 27 t_Bh_stop_27 := dk_go 3 a_Bh_stop_24 rfl
theorem a_Bh_stop_28 : dk_at b_Bh_stop 28 t_Bh_stop_28 := dk_go 1 a_Bh_stop_27 rfl
theorem d_Bh_stop_0 : decode b_Bh_stop 0 = .ok (.aload_n 0, 1) := dk_0 a_Bh_stop_0 (dko_42 _)
theorem d_Bh_stop_1 : decode b_Bh_stop 1 = .ok (.getfield 62, 3) := dk_U2 a_Bh_stop_1 (dko_180 _) rfl
theorem d_Bh_stop_4 : decode b_Bh_stop 4 = .ok (.invokevirtual 270, 3) := dk_U2 a_Bh_stop_4 (dko_182 _) rfl
theorem d_Bh_stop_7 : decode b_Bh_stop 7 = .ok (.ifCond .ne 5, 3) := dk_S2 a_Bh_stop_7 (dko_154 _) (by decide +kernel)
theorem d_Bh_stop_10 : decode b_Bh_stop 10 = .ok (.iconst 0, 1) := dk_0 a_Bh_stop_10 (dko_3 _)
theorem d_Bh_stop_11 : decode b_Bh_stop 11 = .ok (.ireturn, 1) := dk_0 a_Bh_stop_11 (dko_172 _)
theorem d_Bh_stop_12 : decode b_Bh_stop 12 = .ok (.aload_n 0, 1) := dk_0 a_Bh_stop_12 (dko_42 _)
theorem d_Bh_stop_13 : decode b_Bh_stop 13 = .ok (.getfield 62, 3) := dk_U2 a_Bh_stop_13 (dko_180 _) rfl
theorem d_Bh_stop_16 : decode b_Bh_stop 16 = .ok (.iconst 3, 1) := dk_0 a_Bh_stop_16 (dko_6 _)
theorem d_Bh_stop_17 : decode b_Bh_stop 17 = .ok (.putfield 161, 3) := dk_U2 a_Bh_stop_17 (dko_181 _) rfl
theorem d_Bh_stop_20 : decode b_Bh_stop 20 = .ok (.aload_n 0, 1) := dk_0 a_Bh_stop_20 (dko_42 _)
theorem d_Bh_stop_21 : decode b_Bh_stop 21 = .ok (.getfield 35, 3) := dk_U2 a_Bh_stop_21 (dko_180 _) rfl
theorem d_Bh_stop_24 : decode b_Bh_stop 24 = .ok (.invokevirtual 190, 3) := dk_U2 a_Bh_stop_24 (dko_182 _) rfl
theorem d_Bh_stop_27 : decode b_Bh_stop 27 = .ok (.iconst 1, 1) := dk_0 a_Bh_stop_27 (dko_4 _)
theorem d_Bh_stop_28 : decode b_Bh_stop 28 = .ok (.ireturn, 1) := dk_0 a_Bh_stop_28 (dko_172 _)
set_option maxHeartbeats 4000000 in
set_option maxRecDepth 100000 in
theorem ok_Bh_stop (pc : Nat) : OpS mt mi_Bh_stop pc (cs_Bh_stop pc) := (os_n (os_n (os_n (os_l (so_aload_n d_Bh_stop_0 rfl)) (os_n (os_l (so_get (C := R_Bh) (T := F_Bh) (N := 16) (j := 6) in_Bh rfl (by decide) mw_690 d_Bh_stop_1)) (os_l (so_callV (iv := mi_Ru_isAlive) rfl rfl rfl mw_1297 mw_1298 mw_1299 mw_11 mw_1300 ⟨by decide +kernel, by decide +kernel, by decide +kernel⟩ (by decide) d_Bh_stop_4)))) (os_n (os_n (os_l (so_ifne d_Bh_stop_7 (by decide))) (os_l (so_iconst d_Bh_stop_10 (by decide)))) (os_n (os_l (so_zreturn rfl d_Bh_stop_11)) (os_l (so_aload_n d_Bh_stop_12 rfl))))) (os_n (os_n (os_n (os_l (so_get (C := R_Bh) (T := F_Bh) (N := 16) (j := 6) in_Bh rfl (by decide) mw_690 d_Bh_stop_13)) (os_l (so_iconst d_Bh_stop_16 (by decide)))) (os_n (os_l (so_putI (C := R_Ru) (T := F_Ru) (N := 21) (j := 4) in_Ru t_Ru_ok n_Ru rfl (by decide) mw_517 rfl (by decide +kernel) d_Bh_stop_17)) (os_l (so_aload_n d_Bh_stop_20 rfl)))) (os_n (os_n (os_l (so_get (C := R_Bh) (T := F_Bh) (N := 16) (j := 3) in_Bh rfl (by decide) mw_687 d_Bh_stop_21)) (os_l (so_callV (iv := mi_Wa_closeAll) rfl rfl rfl mw_1063 mw_1064 mw_1065 mw_7 mw_1066 ⟨by decide +kernel, by decide +kernel, by decide +kernel⟩ (by decide) d_Bh_stop_24))) (os_n (os_l (so_iconst d_Bh_stop_27 (by decide))) (os_l (so_zreturn rfl d_Bh_stop_28))))))
abbrev t_Bh_pass_92 : List UInt8 := 172 :: []
abbrev t_Bh_pass_91 : List UInt8 := 3 :: t_Bh_pass_92
abbrev t_Bh_pass_90 : List UInt8 := 79 :: t_Bh_pass_91
abbrev t_Bh_pass_88 : List UInt8 := 21 :: 4 :: t_Bh_pass_90
abbrev t_Bh_pass_87 : List UInt8 := 100 :: t_Bh_pass_88
abbrev t_Bh_pass_86 : List UInt8 := 4 :: t_Bh_pass_87
abbrev t_Bh_pass_85 : List UInt8 := 27 :: t_Bh_pass_86
abbrev t_Bh_pass_82 : List UInt8 := 180 :: 1 :: 70 :: t_Bh_pass_85
abbrev t_Bh_pass_79 : List UInt8 := 180 :: 0 :: 174 :: t_Bh_pass_82
abbrev t_Bh_pass_76 : List UInt8 := 180 :: 0 :: 53 :: t_Bh_pass_79
abbrev t_Bh_pass_75 : List UInt8 := 42 :: t_Bh_pass_76
abbrev t_Bh_pass_74 : List UInt8 := 172 :: t_Bh_pass_75
abbrev t_Bh_pass_72 : List UInt8 := 16 :: 252 :: t_Bh_pass_74
abbrev t_Bh_pass_69 : List UInt8 := 158 :: 0 :: 6 :: t_Bh_pass_72
abbrev t_Bh_pass_68 : List UInt8 := 46 :: t_Bh_pass_69
abbrev t_Bh_pass_67 : List UInt8 := 100 :: t_Bh_pass_68
abbrev t_Bh_pass_66 : List UInt8 := 4 :: t_Bh_pass_67
abbrev t_Bh_pass_65 : List UInt8 := 27 :: t_Bh_pass_66
abbrev t_Bh_pass_62 : List UInt8 := 180 :: 1 :: 70 :: t_Bh_pass_65
abbrev t_Bh_pass_59 : List UInt8 := 180 :: 0 :: 174 :: t_Bh_pass_62
abbrev t_Bh_pass_56 : List UInt8 := 180 :: 0 :: 53 :: t_Bh_pass_59
abbrev t_Bh_pass_55 : List UInt8 := 42 :: t_Bh_pass_56
abbrev t_Bh_pass_54 : List UInt8 := 172 :: t_Bh_pass_55
abbrev t_Bh_pass_52 : List UInt8 := 16 :: 253 :: t_Bh_pass_54
abbrev t_Bh_pass_49 : List UInt8 := 164 :: 0 :: 6 :: t_Bh_pass_52
abbrev t_Bh_pass_46 : List UInt8 := 17 :: 14 :: 16 :: t_Bh_pass_49
abbrev t_Bh_pass_44 : List UInt8 := 21 :: 4 :: t_Bh_pass_46
abbrev t_Bh_pass_41 : List UInt8 := 161 :: 0 :: 11 :: t_Bh_pass_44
abbrev t_Bh_pass_40 : List UInt8 := 4 :: t_Bh_pass_41
abbrev t_Bh_pass_38 : List UInt8 := 21 :: 4 :: t_Bh_pass_40
abbrev t_Bh_pass_37 : List UInt8 := 172 :: t_Bh_pass_38
abbrev t_Bh_pass_35 : List UInt8 := 16 :: 254 :: t_Bh_pass_37
abbrev t_Bh_pass_32 : List UInt8 := 160 :: 0 :: 6 :: t_Bh_pass_35
abbrev t_Bh_pass_31 : List UInt8 := 29 :: t_Bh_pass_32
abbrev t_Bh_pass_30 : List UInt8 := 28 :: t_Bh_pass_31
abbrev t_Bh_pass_27 : List UInt8 := 153 :: 0 :: 8 :: t_Bh_pass_30
abbrev t_Bh_pass_24 : List UInt8 := 184 :: 1 :: 67 :: t_Bh_pass_27
abbrev t_Bh_pass_23 : List UInt8 := 29 :: t_Bh_pass_24
abbrev t_Bh_pass_20 : List UInt8 := 153 :: 0 :: 15 :: t_Bh_pass_23
abbrev t_Bh_pass_17 : List UInt8 := 184 :: 1 :: 67 :: t_Bh_pass_20
abbrev t_Bh_pass_16 : List UInt8 := 28 :: t_Bh_pass_17
abbrev t_Bh_pass_15 : List UInt8 := 172 :: t_Bh_pass_16
abbrev t_Bh_pass_14 : List UInt8 := 2 :: t_Bh_pass_15
abbrev t_Bh_pass_11 : List UInt8 := 154 :: 0 :: 5 :: t_Bh_pass_14
abbrev t_Bh_pass_8 : List UInt8 := 182 :: 1 :: 64 :: t_Bh_pass_11
abbrev t_Bh_pass_7 : List UInt8 := 27 :: t_Bh_pass_8
abbrev t_Bh_pass_4 : List UInt8 := 180 :: 0 :: 174 :: t_Bh_pass_7
abbrev t_Bh_pass_1 : List UInt8 := 180 :: 0 :: 53 :: t_Bh_pass_4
abbrev t_Bh_pass_0 : List UInt8 := 42 :: t_Bh_pass_1
theorem a_Bh_pass_0 : dk_at b_Bh_pass 0 t_Bh_pass_0 := dk_start (by decide +kernel)
theorem a_Bh_pass_1 : dk_at b_Bh_pass 1 t_Bh_pass_1 := dk_go 1 a_Bh_pass_0 rfl
theorem a_Bh_pass_4 : dk_at b_Bh_pass 4 t_Bh_pass_4 := dk_go 3 a_Bh_pass_1 rfl
theorem a_Bh_pass_7 : dk_at b_Bh_pass 7 t_Bh_pass_7 := dk_go 3 a_Bh_pass_4 rfl
theorem a_Bh_pass_8 : dk_at b_Bh_pass 8 t_Bh_pass_8 := dk_go 1 a_Bh_pass_7 rfl
theorem a_Bh_pass_11 : dk_at b_Bh_pass 11 t_Bh_pass_11 := dk_go 3 a_Bh_pass_8 rfl
theorem a_Bh_pass_14 : dk_at b_Bh_pass 14 t_Bh_pass_14 := dk_go 3 a_Bh_pass_11 rfl
theorem a_Bh_pass_15 : dk_at b_Bh_pass 15 t_Bh_pass_15 := dk_go 1 a_Bh_pass_14 rfl
theorem a_Bh_pass_16 : dk_at b_Bh_pass 16 t_Bh_pass_16 := dk_go 1 a_Bh_pass_15 rfl
theorem a_Bh_pass_17 : dk_at b_Bh_pass 17 t_Bh_pass_17 := dk_go 1 a_Bh_pass_16 rfl
theorem a_Bh_pass_20 : dk_at b_Bh_pass 20 t_Bh_pass_20 := dk_go 3 a_Bh_pass_17 rfl
theorem a_Bh_pass_23 : dk_at b_Bh_pass 23 t_Bh_pass_23 := dk_go 3 a_Bh_pass_20 rfl
theorem a_Bh_pass_24 : dk_at b_Bh_pass 24 t_Bh_pass_24 := dk_go 1 a_Bh_pass_23 rfl
theorem a_Bh_pass_27 : dk_at b_Bh_pass 27 t_Bh_pass_27 := dk_go 3 a_Bh_pass_24 rfl
theorem a_Bh_pass_30 : dk_at b_Bh_pass 30 t_Bh_pass_30 := dk_go 3 a_Bh_pass_27 rfl
theorem a_Bh_pass_31 : dk_at b_Bh_pass 31 t_Bh_pass_31 := dk_go 1 a_Bh_pass_30 rfl
theorem a_Bh_pass_32 : dk_at b_Bh_pass 32 t_Bh_pass_32 := dk_go 1 a_Bh_pass_31 rfl
theorem a_Bh_pass_35 : dk_at b_Bh_pass 35 t_Bh_pass_35 := dk_go 3 a_Bh_pass_32 rfl
theorem a_Bh_pass_37 : dk_at b_Bh_pass 37 t_Bh_pass_37 := dk_go 2 a_Bh_pass_35 rfl
theorem a_Bh_pass_38 : dk_at b_Bh_pass 38 t_Bh_pass_38 := dk_go 1 a_Bh_pass_37 rfl
theorem a_Bh_pass_40 : dk_at b_Bh_pass 40 t_Bh_pass_40 := dk_go 2 a_Bh_pass_38 rfl
theorem a_Bh_pass_41 : dk_at b_Bh_pass 41 t_Bh_pass_41 := dk_go 1 a_Bh_pass_40 rfl
theorem a_Bh_pass_44 : dk_at b_Bh_pass 44 t_Bh_pass_44 := dk_go 3 a_Bh_pass_41 rfl
theorem a_Bh_pass_46 : dk_at b_Bh_pass 46 t_Bh_pass_46 := dk_go 2 a_Bh_pass_44 rfl
theorem a_Bh_pass_49 : dk_at b_Bh_pass 49 t_Bh_pass_49 := dk_go 3 a_Bh_pass_46 rfl
theorem a_Bh_pass_52 : dk_at b_Bh_pass 52 t_Bh_pass_52 := dk_go 3 a_Bh_pass_49 rfl
theorem a_Bh_pass_54 : dk_at b_Bh_pass 54 t_Bh_pass_54 := dk_go 2 a_Bh_pass_52 rfl
theorem a_Bh_pass_55 : dk_at b_Bh_pass 55 t_Bh_pass_55 := dk_go 1 a_Bh_pass_54 rfl
theorem a_Bh_pass_56 : dk_at b_Bh_pass 56 t_Bh_pass_56 := dk_go 1 a_Bh_pass_55 rfl
theorem a_Bh_pass_59 : dk_at b_Bh_pass 59 t_Bh_pass_59 := dk_go 3 a_Bh_pass_56 rfl
theorem a_Bh_pass_62 : dk_at b_Bh_pass 62 t_Bh_pass_62 := dk_go 3 a_Bh_pass_59 rfl
theorem a_Bh_pass_65 : dk_at b_Bh_pass 65 t_Bh_pass_65 := dk_go 3 a_Bh_pass_62 rfl
theorem a_Bh_pass_66 : dk_at b_Bh_pass 66 t_Bh_pass_66 := dk_go 1 a_Bh_pass_65 rfl
theorem a_Bh_pass_67 : dk_at b_Bh_pass 67 t_Bh_pass_67 := dk_go 1 a_Bh_pass_66 rfl
theorem a_Bh_pass_68 : dk_at b_Bh_pass 68 t_Bh_pass_68 := dk_go 1 a_Bh_pass_67 rfl
theorem a_Bh_pass_69 : dk_at b_Bh_pass 69 t_Bh_pass_69 := dk_go 1 a_Bh_pass_68 rfl
theorem a_Bh_pass_72 : dk_at b_Bh_pass 72 t_Bh_pass_72 := dk_go 3 a_Bh_pass_69 rfl
theorem a_Bh_pass_74 : dk_at b_Bh_pass 74 t_Bh_pass_74 := dk_go 2 a_Bh_pass_72 rfl
theorem a_Bh_pass_75 : dk_at b_Bh_pass 75 t_Bh_pass_75 := dk_go 1 a_Bh_pass_74 rfl
theorem a_Bh_pass_76 : dk_at b_Bh_pass 76 t_Bh_pass_76 := dk_go 1 a_Bh_pass_75 rfl
theorem a_Bh_pass_79 : dk_at b_Bh_pass 79 t_Bh_pass_79 := dk_go 3 a_Bh_pass_76 rfl
theorem a_Bh_pass_82 : dk_at b_Bh_pass 82 t_Bh_pass_82 := dk_go 3 a_Bh_pass_79 rfl
theorem a_Bh_pass_85 : dk_at b_Bh_pass 85 t_Bh_pass_85 := dk_go 3 a_Bh_pass_82 rfl
theorem a_Bh_pass_86 : dk_at b_Bh_pass 86 t_Bh_pass_86 := dk_go 1 a_Bh_pass_85 rfl
theorem a_Bh_pass_87 : dk_at b_Bh_pass 87 t_Bh_pass_87 := dk_go 1 a_Bh_pass_86 rfl
theorem a_Bh_pass_88 : dk_at b_Bh_pass 88 t_Bh_pass_88 := dk_go 1 a_Bh_pass_87 rfl
theorem a_Bh_pass_90 : dk_at b_Bh_pass 90 t_Bh_pass_90 := dk_go 2 a_Bh_pass_88 rfl
theorem a_Bh_pass_91 : dk_at b_Bh_pass 91 t_Bh_pass_91 := dk_go 1 a_Bh_pass_90 rfl
theorem a_Bh_pass_92 : dk_at b_Bh_pass 92 t_Bh_pass_92 := dk_go 1 a_Bh_pass_91 rfl
theorem d_Bh_pass_0 : decode b_Bh_pass 0 = .ok (.aload_n 0, 1) := dk_0 a_Bh_pass_0 (dko_42 _)
theorem d_Bh_pass_1 : decode b_Bh_pass 1 = .ok (.getfield 53, 3) := dk_U2 a_Bh_pass_1 (dko_180 _) rfl
theorem d_Bh_pass_4 : decode b_Bh_pass 4 = .ok (.getfield 174, 3) := dk_U2 a_Bh_pass_4 (dko_180 _) rfl
theorem d_Bh_pass_7 : decode b_Bh_pass 7 = .ok (.iload_n 1, 1) := dk_0 a_Bh_pass_7 (dko_27 _)
theorem d_Bh_pass_8 : decode b_Bh_pass 8 = .ok (.invokevirtual 320, 3) := dk_U2 a_Bh_pass_8 (dko_182 _) rfl
theorem d_Bh_pass_11 : decode b_Bh_pass 11 = .ok (.ifCond .ne 5, 3) := dk_S2 a_Bh_pass_11 (dko_154 _) (by decide +kernel)
theorem d_Bh_pass_14 : decode b_Bh_pass 14 = .ok (.iconst (-1), 1) := dk_0 a_Bh_pass_14 (dko_2 _)
theorem d_Bh_pass_15 : decode b_Bh_pass 15 = .ok (.ireturn, 1) := dk_0 a_Bh_pass_15 (dko_172 _)
theorem d_Bh_pass_16 : decode b_Bh_pass 16 = .ok (.iload_n 2, 1) := dk_0 a_Bh_pass_16 (dko_28 _)
theorem d_Bh_pass_17 : decode b_Bh_pass 17 = .ok (.invokestatic 323, 3) := dk_U2 a_Bh_pass_17 (dko_184 _) rfl
theorem d_Bh_pass_20 : decode b_Bh_pass 20 = .ok (.ifCond .eq 15, 3) := dk_S2 a_Bh_pass_20 (dko_153 _) (by decide +kernel)
theorem d_Bh_pass_23 : decode b_Bh_pass 23 = .ok (.iload_n 3, 1) := dk_0 a_Bh_pass_23 (dko_29 _)
theorem d_Bh_pass_24 : decode b_Bh_pass 24 = .ok (.invokestatic 323, 3) := dk_U2 a_Bh_pass_24 (dko_184 _) rfl
theorem d_Bh_pass_27 : decode b_Bh_pass 27 = .ok (.ifCond .eq 8, 3) := dk_S2 a_Bh_pass_27 (dko_153 _) (by decide +kernel)
theorem d_Bh_pass_30 : decode b_Bh_pass 30 = .ok (.iload_n 2, 1) := dk_0 a_Bh_pass_30 (dko_28 _)
theorem d_Bh_pass_31 : decode b_Bh_pass 31 = .ok (.iload_n 3, 1) := dk_0 a_Bh_pass_31 (dko_29 _)
theorem d_Bh_pass_32 : decode b_Bh_pass 32 = .ok (.if_icmp .ne 6, 3) := dk_S2 a_Bh_pass_32 (dko_160 _) (by decide +kernel)
theorem d_Bh_pass_35 : decode b_Bh_pass 35 = .ok (.bipush (-2), 2) := dk_S1 a_Bh_pass_35 (dko_16 _) (by decide +kernel)
theorem d_Bh_pass_37 : decode b_Bh_pass 37 = .ok (.ireturn, 1) := dk_0 a_Bh_pass_37 (dko_172 _)
theorem d_Bh_pass_38 : decode b_Bh_pass 38 = .ok (.iload 4, 2) := dk_U1 a_Bh_pass_38 (dko_21 _) rfl
theorem d_Bh_pass_40 : decode b_Bh_pass 40 = .ok (.iconst 1, 1) := dk_0 a_Bh_pass_40 (dko_4 _)
theorem d_Bh_pass_41 : decode b_Bh_pass 41 = .ok (.if_icmp .lt 11, 3) := dk_S2 a_Bh_pass_41 (dko_161 _) (by decide +kernel)
theorem d_Bh_pass_44 : decode b_Bh_pass 44 = .ok (.iload 4, 2) := dk_U1 a_Bh_pass_44 (dko_21 _) rfl
theorem d_Bh_pass_46 : decode b_Bh_pass 46 = .ok (.sipush 3600, 3) := dk_S2 a_Bh_pass_46 (dko_17 _) (by decide +kernel)
theorem d_Bh_pass_49 : decode b_Bh_pass 49 = .ok (.if_icmp .le 6, 3) := dk_S2 a_Bh_pass_49 (dko_164 _) (by decide +kernel)
theorem d_Bh_pass_52 : decode b_Bh_pass 52 = .ok (.bipush (-3), 2) := dk_S1 a_Bh_pass_52 (dko_16 _) (by decide +kernel)
theorem d_Bh_pass_54 : decode b_Bh_pass 54 = .ok (.ireturn, 1) := dk_0 a_Bh_pass_54 (dko_172 _)
theorem d_Bh_pass_55 : decode b_Bh_pass 55 = .ok (.aload_n 0, 1) := dk_0 a_Bh_pass_55 (dko_42 _)
theorem d_Bh_pass_56 : decode b_Bh_pass 56 = .ok (.getfield 53, 3) := dk_U2 a_Bh_pass_56 (dko_180 _) rfl
theorem d_Bh_pass_59 : decode b_Bh_pass 59 = .ok (.getfield 174, 3) := dk_U2 a_Bh_pass_59 (dko_180 _) rfl
theorem d_Bh_pass_62 : decode b_Bh_pass 62 = .ok (.getfield 326, 3) := dk_U2 a_Bh_pass_62 (dko_180 _) rfl
theorem d_Bh_pass_65 : decode b_Bh_pass 65 = .ok (.iload_n 1, 1) := dk_0 a_Bh_pass_65 (dko_27 _)
theorem d_Bh_pass_66 : decode b_Bh_pass 66 = .ok (.iconst 1, 1) := dk_0 a_Bh_pass_66 (dko_4 _)
theorem d_Bh_pass_67 : decode b_Bh_pass 67 = .ok (.isub, 1) := dk_0 a_Bh_pass_67 (dko_100 _)
theorem d_Bh_pass_68 : decode b_Bh_pass 68 = .ok (.iaload, 1) := dk_0 a_Bh_pass_68 (dko_46 _)
theorem d_Bh_pass_69 : decode b_Bh_pass 69 = .ok (.ifCond .le 6, 3) := dk_S2 a_Bh_pass_69 (dko_158 _) (by decide +kernel)
theorem d_Bh_pass_72 : decode b_Bh_pass 72 = .ok (.bipush (-4), 2) := dk_S1 a_Bh_pass_72 (dko_16 _) (by decide +kernel)
theorem d_Bh_pass_74 : decode b_Bh_pass 74 = .ok (.ireturn, 1) := dk_0 a_Bh_pass_74 (dko_172 _)
theorem d_Bh_pass_75 : decode b_Bh_pass 75 = .ok (.aload_n 0, 1) := dk_0 a_Bh_pass_75 (dko_42 _)
theorem d_Bh_pass_76 : decode b_Bh_pass 76 = .ok (.getfield 53, 3) := dk_U2 a_Bh_pass_76 (dko_180 _) rfl
theorem d_Bh_pass_79 : decode b_Bh_pass 79 = .ok (.getfield 174, 3) := dk_U2 a_Bh_pass_79 (dko_180 _) rfl
theorem d_Bh_pass_82 : decode b_Bh_pass 82 = .ok (.getfield 326, 3) := dk_U2 a_Bh_pass_82 (dko_180 _) rfl
theorem d_Bh_pass_85 : decode b_Bh_pass 85 = .ok (.iload_n 1, 1) := dk_0 a_Bh_pass_85 (dko_27 _)
theorem d_Bh_pass_86 : decode b_Bh_pass 86 = .ok (.iconst 1, 1) := dk_0 a_Bh_pass_86 (dko_4 _)
theorem d_Bh_pass_87 : decode b_Bh_pass 87 = .ok (.isub, 1) := dk_0 a_Bh_pass_87 (dko_100 _)
theorem d_Bh_pass_88 : decode b_Bh_pass 88 = .ok (.iload 4, 2) := dk_U1 a_Bh_pass_88 (dko_21 _) rfl
theorem d_Bh_pass_90 : decode b_Bh_pass 90 = .ok (.iastore, 1) := dk_0 a_Bh_pass_90 (dko_79 _)
theorem d_Bh_pass_91 : decode b_Bh_pass 91 = .ok (.iconst 0, 1) := dk_0 a_Bh_pass_91 (dko_3 _)
theorem d_Bh_pass_92 : decode b_Bh_pass 92 = .ok (.ireturn, 1) := dk_0 a_Bh_pass_92 (dko_172 _)
set_option maxHeartbeats 4000000 in
set_option maxRecDepth 100000 in
theorem ok_Bh_pass (pc : Nat) : OpS mt mi_Bh_pass pc (cs_Bh_pass pc) := (os_n (os_n (os_n (os_n (os_n (os_l (so_aload_n d_Bh_pass_0 rfl)) (os_n (os_l (so_get (C := R_Bh) (T := F_Bh) (N := 16) (j := 5) in_Bh rfl (by decide) mw_689 d_Bh_pass_1)) (os_l (so_get (C := R_Ac) (T := F_Ac) (N := 8) (j := 3) in_Ac rfl (by decide) mw_394 d_Bh_pass_4)))) (os_n (os_l (so_iload_n d_Bh_pass_7 rfl)) (os_n (os_l (so_callV (iv := mi_Ro_has) rfl rfl rfl mw_1492 mw_1493 mw_1494 mw_10 mw_1495 ⟨by decide +kernel, by decide +kernel, by decide +kernel⟩ (by decide) d_Bh_pass_8)) (os_l (so_ifne d_Bh_pass_11 (by decide)))))) (os_n (os_n (os_l (so_iconst d_Bh_pass_14 (by decide))) (os_n (os_l (so_ireturn rfl d_Bh_pass_15)) (os_l (so_iload_n d_Bh_pass_16 rfl)))) (os_n (os_l (so_callS (iv := mi_Bh_isPerson) rfl mw_1496 mw_1497 mw_1 mw_1498 ⟨by decide +kernel, by decide +kernel, by decide +kernel⟩ (by decide) d_Bh_pass_17)) (os_n (os_l (so_ifeq d_Bh_pass_20 (by decide))) (os_l (so_iload_n d_Bh_pass_23 rfl)))))) (os_n (os_n (os_n (os_l (so_callS (iv := mi_Bh_isPerson) rfl mw_1496 mw_1497 mw_1 mw_1498 ⟨by decide +kernel, by decide +kernel, by decide +kernel⟩ (by decide) d_Bh_pass_24)) (os_n (os_l (so_ifeq d_Bh_pass_27 (by decide))) (os_l (so_iload_n d_Bh_pass_30 rfl)))) (os_n (os_l (so_iload_n d_Bh_pass_31 rfl)) (os_n (os_l (so_icne d_Bh_pass_32 (by decide))) (os_l (so_bipush d_Bh_pass_35 (by decide)))))) (os_n (os_n (os_l (so_ireturn rfl d_Bh_pass_37)) (os_n (os_l (so_iload d_Bh_pass_38)) (os_l (so_iconst d_Bh_pass_40 (by decide))))) (os_n (os_l (so_iclt d_Bh_pass_41 (by decide))) (os_n (os_l (so_iload d_Bh_pass_44)) (os_l (so_sipush d_Bh_pass_46 (by decide)))))))) (os_n (os_n (os_n (os_n (os_l (so_icle d_Bh_pass_49 (by decide))) (os_n (os_l (so_bipush d_Bh_pass_52 (by decide))) (os_l (so_ireturn rfl d_Bh_pass_54)))) (os_n (os_l (so_aload_n d_Bh_pass_55 rfl)) (os_n (os_l (so_get (C := R_Bh) (T := F_Bh) (N := 16) (j := 5) in_Bh rfl (by decide) mw_689 d_Bh_pass_56)) (os_l (so_get (C := R_Ac) (T := F_Ac) (N := 8) (j := 3) in_Ac rfl (by decide) mw_394 d_Bh_pass_59))))) (os_n (os_n (os_l (so_get (C := R_Ro) (T := F_Ro) (N := 18) (j := 4) in_Ro rfl (by decide) mw_338 d_Bh_pass_62)) (os_n (os_l (so_iload_n d_Bh_pass_65 rfl)) (os_l (so_iconst d_Bh_pass_66 (by decide))))) (os_n (os_l (so_isub d_Bh_pass_67)) (os_n (os_l (so_iaload d_Bh_pass_68)) (os_l (so_ifle d_Bh_pass_69 (by decide))))))) (os_n (os_n (os_n (os_l (so_bipush d_Bh_pass_72 (by decide))) (os_n (os_l (so_ireturn rfl d_Bh_pass_74)) (os_l (so_aload_n d_Bh_pass_75 rfl)))) (os_n (os_l (so_get (C := R_Bh) (T := F_Bh) (N := 16) (j := 5) in_Bh rfl (by decide) mw_689 d_Bh_pass_76)) (os_n (os_l (so_get (C := R_Ac) (T := F_Ac) (N := 8) (j := 3) in_Ac rfl (by decide) mw_394 d_Bh_pass_79)) (os_l (so_get (C := R_Ro) (T := F_Ro) (N := 18) (j := 4) in_Ro rfl (by decide) mw_338 d_Bh_pass_82))))) (os_n (os_n (os_l (so_iload_n d_Bh_pass_85 rfl)) (os_n (os_l (so_iconst d_Bh_pass_86 (by decide))) (os_l (so_isub d_Bh_pass_87)))) (os_n (os_n (os_l (so_iload d_Bh_pass_88)) (os_l (so_iastore d_Bh_pass_90))) (os_n (os_l (so_iconst d_Bh_pass_91 (by decide))) (os_l (so_ireturn rfl d_Bh_pass_92))))))))
abbrev t_Bh_isPerson_17 : List UInt8 := 172 :: []
abbrev t_Bh_isPerson_16 : List UInt8 := 3 :: t_Bh_isPerson_17
abbrev t_Bh_isPerson_13 : List UInt8 := 167 :: 0 :: 4 :: t_Bh_isPerson_16
abbrev t_Bh_isPerson_12 : List UInt8 := 4 :: t_Bh_isPerson_13
abbrev t_Bh_isPerson_9 : List UInt8 := 163 :: 0 :: 7 :: t_Bh_isPerson_12
abbrev t_Bh_isPerson_6 : List UInt8 := 17 :: 3 :: 231 :: t_Bh_isPerson_9
abbrev t_Bh_isPerson_5 : List UInt8 := 26 :: t_Bh_isPerson_6
abbrev t_Bh_isPerson_2 : List UInt8 := 161 :: 0 :: 14 :: t_Bh_isPerson_5
abbrev t_Bh_isPerson_1 : List UInt8 := 4 :: t_Bh_isPerson_2
abbrev t_Bh_isPerson_0 : List UInt8 := 26 :: t_Bh_isPerson_1
theorem a_Bh_isPerson_0 : dk_at b_Bh_isPerson 0 t_Bh_isPerson_0 := dk_start (by decide +kernel)
theorem a_Bh_isPerson_1 : dk_at b_Bh_isPerson 1 t_Bh_isPerson_1 := dk_go 1 a_Bh_isPerson_0 rfl
theorem a_Bh_isPerson_2 : dk_at b_Bh_isPerson 2 t_Bh_isPerson_2 := dk_go 1 a_Bh_isPerson_1 rfl
theorem a_Bh_isPerson_5 : dk_at b_Bh_isPerson 5 t_Bh_isPerson_5 := dk_go 3 a_Bh_isPerson_2 rfl
theorem a_Bh_isPerson_6 : dk_at b_Bh_isPerson 6 t_Bh_isPerson_6 := dk_go 1 a_Bh_isPerson_5 rfl
theorem a_Bh_isPerson_9 : dk_at b_Bh_isPerson 9 t_Bh_isPerson_9 := dk_go 3 a_Bh_isPerson_6 rfl
theorem a_Bh_isPerson_12 : dk_at b_Bh_isPerson 12 t_Bh_isPerson_12 := dk_go 3 a_Bh_isPerson_9 rfl
theorem a_Bh_isPerson_13 : dk_at b_Bh_isPerson 13 t_Bh_isPerson_13 := dk_go 1 a_Bh_isPerson_12 rfl
theorem a_Bh_isPerson_16 : dk_at b_Bh_isPerson 16 t_Bh_isPerson_16 := dk_go 3 a_Bh_isPerson_13 rfl
theorem a_Bh_isPerson_17 : dk_at b_Bh_isPerson 17 t_Bh_isPerson_17 := dk_go 1 a_Bh_isPerson_16 rfl
theorem d_Bh_isPerson_0 : decode b_Bh_isPerson 0 = .ok (.iload_n 0, 1) := dk_0 a_Bh_isPerson_0 (dko_26 _)
theorem d_Bh_isPerson_1 : decode b_Bh_isPerson 1 = .ok (.iconst 1, 1) := dk_0 a_Bh_isPerson_1 (dko_4 _)
theorem d_Bh_isPerson_2 : decode b_Bh_isPerson 2 = .ok (.if_icmp .lt 14, 3) := dk_S2 a_Bh_isPerson_2 (dko_161 _) (by decide +kernel)
theorem d_Bh_isPerson_5 : decode b_Bh_isPerson 5 = .ok (.iload_n 0, 1) := dk_0 a_Bh_isPerson_5 (dko_26 _)
theorem d_Bh_isPerson_6 : decode b_Bh_isPerson 6 = .ok (.sipush 999, 3) := dk_S2 a_Bh_isPerson_6 (dko_17 _) (by decide +kernel)
theorem d_Bh_isPerson_9 : decode b_Bh_isPerson 9 = .ok (.if_icmp .gt 7, 3) := dk_S2 a_Bh_isPerson_9 (dko_163 _) (by decide +kernel)
theorem d_Bh_isPerson_12 : decode b_Bh_isPerson 12 = .ok (.iconst 1, 1) := dk_0 a_Bh_isPerson_12 (dko_4 _)
theorem d_Bh_isPerson_13 : decode b_Bh_isPerson 13 = .ok (.goto 4, 3) := dk_S2 a_Bh_isPerson_13 (dko_167 _) (by decide +kernel)
theorem d_Bh_isPerson_16 : decode b_Bh_isPerson 16 = .ok (.iconst 0, 1) := dk_0 a_Bh_isPerson_16 (dko_3 _)
theorem d_Bh_isPerson_17 : decode b_Bh_isPerson 17 = .ok (.ireturn, 1) := dk_0 a_Bh_isPerson_17 (dko_172 _)
set_option maxHeartbeats 4000000 in
set_option maxRecDepth 100000 in
theorem ok_Bh_isPerson (pc : Nat) : OpS mt mi_Bh_isPerson pc (cs_Bh_isPerson pc) := (os_n (os_n (os_n (os_l (so_iload_n d_Bh_isPerson_0 rfl)) (os_l (so_iconst d_Bh_isPerson_1 (by decide)))) (os_n (os_l (so_iclt d_Bh_isPerson_2 (by decide))) (os_n (os_l (so_iload_n d_Bh_isPerson_5 rfl)) (os_l (so_sipush d_Bh_isPerson_6 (by decide)))))) (os_n (os_n (os_l (so_icgt d_Bh_isPerson_9 (by decide))) (os_l (so_iconst d_Bh_isPerson_12 (by decide)))) (os_n (os_l (so_goto d_Bh_isPerson_13 (by decide))) (os_n (os_l (so_iconst d_Bh_isPerson_16 (by decide))) (os_l (so_zreturn rfl d_Bh_isPerson_17))))))
abbrev t_Bh_reset_49 : List UInt8 := 172 :: []
abbrev t_Bh_reset_48 : List UInt8 := 4 :: t_Bh_reset_49
abbrev t_Bh_reset_47 : List UInt8 := 84 :: t_Bh_reset_48
abbrev t_Bh_reset_46 : List UInt8 := 3 :: t_Bh_reset_47
abbrev t_Bh_reset_45 : List UInt8 := 100 :: t_Bh_reset_46
abbrev t_Bh_reset_44 : List UInt8 := 4 :: t_Bh_reset_45
abbrev t_Bh_reset_43 : List UInt8 := 27 :: t_Bh_reset_44
abbrev t_Bh_reset_40 : List UInt8 := 180 :: 1 :: 73 :: t_Bh_reset_43
abbrev t_Bh_reset_39 : List UInt8 := 44 :: t_Bh_reset_40
abbrev t_Bh_reset_38 : List UInt8 := 172 :: t_Bh_reset_39
abbrev t_Bh_reset_37 : List UInt8 := 3 :: t_Bh_reset_38
abbrev t_Bh_reset_34 : List UInt8 := 153 :: 0 :: 5 :: t_Bh_reset_37
abbrev t_Bh_reset_31 : List UInt8 := 182 :: 1 :: 77 :: t_Bh_reset_34
abbrev t_Bh_reset_30 : List UInt8 := 100 :: t_Bh_reset_31
abbrev t_Bh_reset_29 : List UInt8 := 4 :: t_Bh_reset_30
abbrev t_Bh_reset_28 : List UInt8 := 27 :: t_Bh_reset_29
abbrev t_Bh_reset_27 : List UInt8 := 44 :: t_Bh_reset_28
abbrev t_Bh_reset_24 : List UInt8 := 153 :: 0 :: 13 :: t_Bh_reset_27
abbrev t_Bh_reset_23 : List UInt8 := 51 :: t_Bh_reset_24
abbrev t_Bh_reset_22 : List UInt8 := 100 :: t_Bh_reset_23
abbrev t_Bh_reset_21 : List UInt8 := 4 :: t_Bh_reset_22
abbrev t_Bh_reset_20 : List UInt8 := 27 :: t_Bh_reset_21
abbrev t_Bh_reset_17 : List UInt8 := 180 :: 1 :: 73 :: t_Bh_reset_20
abbrev t_Bh_reset_16 : List UInt8 := 44 :: t_Bh_reset_17
abbrev t_Bh_reset_13 : List UInt8 := 153 :: 0 :: 24 :: t_Bh_reset_16
abbrev t_Bh_reset_10 : List UInt8 := 182 :: 1 :: 64 :: t_Bh_reset_13
abbrev t_Bh_reset_9 : List UInt8 := 27 :: t_Bh_reset_10
abbrev t_Bh_reset_8 : List UInt8 := 44 :: t_Bh_reset_9
abbrev t_Bh_reset_7 : List UInt8 := 77 :: t_Bh_reset_8
abbrev t_Bh_reset_4 : List UInt8 := 180 :: 0 :: 174 :: t_Bh_reset_7
abbrev t_Bh_reset_1 : List UInt8 := 180 :: 0 :: 53 :: t_Bh_reset_4
abbrev t_Bh_reset_0 : List UInt8 := 42 :: t_Bh_reset_1
theorem a_Bh_reset_0 : dk_at b_Bh_reset 0 t_Bh_reset_0 := dk_start (by decide +kernel)
theorem a_Bh_reset_1 : dk_at b_Bh_reset 1 t_Bh_reset_1 := dk_go 1 a_Bh_reset_0 rfl
theorem a_Bh_reset_4 : dk_at b_Bh_reset 4 t_Bh_reset_4 := dk_go 3 a_Bh_reset_1 rfl
theorem a_Bh_reset_7 : dk_at b_Bh_reset 7 t_Bh_reset_7 := dk_go 3 a_Bh_reset_4 rfl
theorem a_Bh_reset_8 : dk_at b_Bh_reset 8 t_Bh_reset_8 := dk_go 1 a_Bh_reset_7 rfl
theorem a_Bh_reset_9 : dk_at b_Bh_reset 9 t_Bh_reset_9 := dk_go 1 a_Bh_reset_8 rfl
theorem a_Bh_reset_10 : dk_at b_Bh_reset 10 t_Bh_reset_10 := dk_go 1 a_Bh_reset_9 rfl
theorem a_Bh_reset_13 : dk_at b_Bh_reset 13 t_Bh_reset_13 := dk_go 3 a_Bh_reset_10 rfl
theorem a_Bh_reset_16 : dk_at b_Bh_reset 16 t_Bh_reset_16 := dk_go 3 a_Bh_reset_13 rfl
theorem a_Bh_reset_17 : dk_at b_Bh_reset 17 t_Bh_reset_17 := dk_go 1 a_Bh_reset_16 rfl
theorem a_Bh_reset_20 : dk_at b_Bh_reset 20 t_Bh_reset_20 := dk_go 3 a_Bh_reset_17 rfl
theorem a_Bh_reset_21 : dk_at b_Bh_reset 21 t_Bh_reset_21 := dk_go 1 a_Bh_reset_20 rfl
theorem a_Bh_reset_22 : dk_at b_Bh_reset 22 t_Bh_reset_22 := dk_go 1 a_Bh_reset_21 rfl
theorem a_Bh_reset_23 : dk_at b_Bh_reset 23 t_Bh_reset_23 := dk_go 1 a_Bh_reset_22 rfl
theorem a_Bh_reset_24 : dk_at b_Bh_reset 24 t_Bh_reset_24 := dk_go 1 a_Bh_reset_23 rfl
theorem a_Bh_reset_27 : dk_at b_Bh_reset 27 t_Bh_reset_27 := dk_go 3 a_Bh_reset_24 rfl
theorem a_Bh_reset_28 : dk_at b_Bh_reset 28 t_Bh_reset_28 := dk_go 1 a_Bh_reset_27 rfl
theorem a_Bh_reset_29 : dk_at b_Bh_reset 29 t_Bh_reset_29 := dk_go 1 a_Bh_reset_28 rfl
theorem a_Bh_reset_30 : dk_at b_Bh_reset 30 t_Bh_reset_30 := dk_go 1 a_Bh_reset_29 rfl
theorem a_Bh_reset_31 : dk_at b_Bh_reset 31 t_Bh_reset_31 := dk_go 1 a_Bh_reset_30 rfl
theorem a_Bh_reset_34 : dk_at b_Bh_reset 34 t_Bh_reset_34 := dk_go 3 a_Bh_reset_31 rfl
theorem a_Bh_reset_37 : dk_at b_Bh_reset 37 t_Bh_reset_37 := dk_go 3 a_Bh_reset_34 rfl
theorem a_Bh_reset_38 : dk_at b_Bh_reset 38 t_Bh_reset_38 := dk_go 1 a_Bh_reset_37 rfl
theorem a_Bh_reset_39 : dk_at b_Bh_reset 39 t_Bh_reset_39 := dk_go 1 a_Bh_reset_38 rfl
theorem a_Bh_reset_40 : dk_at b_Bh_reset 40 t_Bh_reset_40 := dk_go 1 a_Bh_reset_39 rfl
theorem a_Bh_reset_43 : dk_at b_Bh_reset 43 t_Bh_reset_43 := dk_go 3 a_Bh_reset_40 rfl
theorem a_Bh_reset_44 : dk_at b_Bh_reset 44 t_Bh_reset_44 := dk_go 1 a_Bh_reset_43 rfl
theorem a_Bh_reset_45 : dk_at b_Bh_reset 45 t_Bh_reset_45 := dk_go 1 a_Bh_reset_44 rfl
theorem a_Bh_reset_46 : dk_at b_Bh_reset 46 t_Bh_reset_46 := dk_go 1 a_Bh_reset_45 rfl
theorem a_Bh_reset_47 : dk_at b_Bh_reset 47 t_Bh_reset_47 := dk_go 1 a_Bh_reset_46 rfl
theorem a_Bh_reset_48 : dk_at b_Bh_reset 48 t_Bh_reset_48 := dk_go 1 a_Bh_reset_47 rfl
theorem a_Bh_reset_49 : dk_at b_Bh_reset 49 t_Bh_reset_49 := dk_go 1 a_Bh_reset_48 rfl
theorem d_Bh_reset_0 : decode b_Bh_reset 0 = .ok (.aload_n 0, 1) := dk_0 a_Bh_reset_0 (dko_42 _)
theorem d_Bh_reset_1 : decode b_Bh_reset 1 = .ok (.getfield 53, 3) := dk_U2 a_Bh_reset_1 (dko_180 _) rfl
theorem d_Bh_reset_4 : decode b_Bh_reset 4 = .ok (.getfield 174, 3) := dk_U2 a_Bh_reset_4 (dko_180 _) rfl
theorem d_Bh_reset_7 : decode b_Bh_reset 7 = .ok (.astore_n 2, 1) := dk_0 a_Bh_reset_7 (dko_77 _)
theorem d_Bh_reset_8 : decode b_Bh_reset 8 = .ok (.aload_n 2, 1) := dk_0 a_Bh_reset_8 (dko_44 _)
theorem d_Bh_reset_9 : decode b_Bh_reset 9 = .ok (.iload_n 1, 1) := dk_0 a_Bh_reset_9 (dko_27 _)
theorem d_Bh_reset_10 : decode b_Bh_reset 10 = .ok (.invokevirtual 320, 3) := dk_U2 a_Bh_reset_10 (dko_182 _) rfl
theorem d_Bh_reset_13 : decode b_Bh_reset 13 = .ok (.ifCond .eq 24, 3) := dk_S2 a_Bh_reset_13 (dko_153 _) (by decide +kernel)
theorem d_Bh_reset_16 : decode b_Bh_reset 16 = .ok (.aload_n 2, 1) := dk_0 a_Bh_reset_16 (dko_44 _)
theorem d_Bh_reset_17 : decode b_Bh_reset 17 = .ok (.getfield 329, 3) := dk_U2 a_Bh_reset_17 (dko_180 _) rfl
theorem d_Bh_reset_20 : decode b_Bh_reset 20 = .ok (.iload_n 1, 1) := dk_0 a_Bh_reset_20 (dko_27 _)
theorem d_Bh_reset_21 : decode b_Bh_reset 21 = .ok (.iconst 1, 1) := dk_0 a_Bh_reset_21 (dko_4 _)
theorem d_Bh_reset_22 : decode b_Bh_reset 22 = .ok (.isub, 1) := dk_0 a_Bh_reset_22 (dko_100 _)
theorem d_Bh_reset_23 : decode b_Bh_reset 23 = .ok (.baload, 1) := dk_0 a_Bh_reset_23 (dko_51 _)
theorem d_Bh_reset_24 : decode b_Bh_reset 24 = .ok (.ifCond .eq 13, 3) := dk_S2 a_Bh_reset_24 (dko_153 _) (by decide +kernel)
theorem d_Bh_reset_27 : decode b_Bh_reset 27 = .ok (.aload_n 2, 1) := dk_0 a_Bh_reset_27 (dko_44 _)
theorem d_Bh_reset_28 : decode b_Bh_reset 28 = .ok (.iload_n 1, 1) := dk_0 a_Bh_reset_28 (dko_27 _)
theorem d_Bh_reset_29 : decode b_Bh_reset 29 = .ok (.iconst 1, 1) := dk_0 a_Bh_reset_29 (dko_4 _)
theorem d_Bh_reset_30 : decode b_Bh_reset 30 = .ok (.isub, 1) := dk_0 a_Bh_reset_30 (dko_100 _)
theorem d_Bh_reset_31 : decode b_Bh_reset 31 = .ok (.invokevirtual 333, 3) := dk_U2 a_Bh_reset_31 (dko_182 _) rfl
theorem d_Bh_reset_34 : decode b_Bh_reset 34 = .ok (.ifCond .eq 5, 3) := dk_S2 a_Bh_reset_34 (dko_153 _) (by decide +kernel)
theorem d_Bh_reset_37 : decode b_Bh_reset 37 = .ok (.iconst 0, 1) := dk_0 a_Bh_reset_37 (dko_3 _)
theorem d_Bh_reset_38 : decode b_Bh_reset 38 = .ok (.ireturn, 1) := dk_0 a_Bh_reset_38 (dko_172 _)
theorem d_Bh_reset_39 : decode b_Bh_reset 39 = .ok (.aload_n 2, 1) := dk_0 a_Bh_reset_39 (dko_44 _)
theorem d_Bh_reset_40 : decode b_Bh_reset 40 = .ok (.getfield 329, 3) := dk_U2 a_Bh_reset_40 (dko_180 _) rfl
theorem d_Bh_reset_43 : decode b_Bh_reset 43 = .ok (.iload_n 1, 1) := dk_0 a_Bh_reset_43 (dko_27 _)
theorem d_Bh_reset_44 : decode b_Bh_reset 44 = .ok (.iconst 1, 1) := dk_0 a_Bh_reset_44 (dko_4 _)
theorem d_Bh_reset_45 : decode b_Bh_reset 45 = .ok (.isub, 1) := dk_0 a_Bh_reset_45 (dko_100 _)
theorem d_Bh_reset_46 : decode b_Bh_reset 46 = .ok (.iconst 0, 1) := dk_0 a_Bh_reset_46 (dko_3 _)
theorem d_Bh_reset_47 : decode b_Bh_reset 47 = .ok (.bastore, 1) := dk_0 a_Bh_reset_47 (dko_84 _)
theorem d_Bh_reset_48 : decode b_Bh_reset 48 = .ok (.iconst 1, 1) := dk_0 a_Bh_reset_48 (dko_4 _)
theorem d_Bh_reset_49 : decode b_Bh_reset 49 = .ok (.ireturn, 1) := dk_0 a_Bh_reset_49 (dko_172 _)
set_option maxHeartbeats 4000000 in
set_option maxRecDepth 100000 in
theorem ok_Bh_reset (pc : Nat) : OpS mt mi_Bh_reset pc (cs_Bh_reset pc) := (os_n (os_n (os_n (os_n (os_n (os_l (so_aload_n d_Bh_reset_0 rfl)) (os_l (so_get (C := R_Bh) (T := F_Bh) (N := 16) (j := 5) in_Bh rfl (by decide) mw_689 d_Bh_reset_1))) (os_n (os_l (so_get (C := R_Ac) (T := F_Ac) (N := 8) (j := 3) in_Ac rfl (by decide) mw_394 d_Bh_reset_4)) (os_l (so_astore_n d_Bh_reset_7 rfl (by decide))))) (os_n (os_n (os_l (so_aload_n d_Bh_reset_8 rfl)) (os_l (so_iload_n d_Bh_reset_9 rfl))) (os_n (os_l (so_callV (iv := mi_Ro_has) rfl rfl rfl mw_1492 mw_1493 mw_1494 mw_10 mw_1495 ⟨by decide +kernel, by decide +kernel, by decide +kernel⟩ (by decide) d_Bh_reset_10)) (os_l (so_ifeq d_Bh_reset_13 (by decide)))))) (os_n (os_n (os_n (os_l (so_aload_n d_Bh_reset_16 rfl)) (os_l (so_get (C := R_Ro) (T := F_Ro) (N := 18) (j := 3) in_Ro rfl (by decide) mw_336 d_Bh_reset_17))) (os_n (os_l (so_iload_n d_Bh_reset_20 rfl)) (os_l (so_iconst d_Bh_reset_21 (by decide))))) (os_n (os_n (os_l (so_isub d_Bh_reset_22)) (os_l (so_baload d_Bh_reset_23))) (os_n (os_l (so_ifeq d_Bh_reset_24 (by decide))) (os_l (so_aload_n d_Bh_reset_27 rfl)))))) (os_n (os_n (os_n (os_n (os_l (so_iload_n d_Bh_reset_28 rfl)) (os_l (so_iconst d_Bh_reset_29 (by decide)))) (os_n (os_l (so_isub d_Bh_reset_30)) (os_l (so_callV (iv := mi_Ro_isOn) rfl rfl rfl mw_1503 mw_1213 mw_1214 mw_10 mw_1215 ⟨by decide +kernel, by decide +kernel, by decide +kernel⟩ (by decide) d_Bh_reset_31)))) (os_n (os_n (os_l (so_ifeq d_Bh_reset_34 (by decide))) (os_l (so_iconst d_Bh_reset_37 (by decide)))) (os_n (os_l (so_zreturn rfl d_Bh_reset_38)) (os_l (so_aload_n d_Bh_reset_39 rfl))))) (os_n (os_n (os_n (os_l (so_get (C := R_Ro) (T := F_Ro) (N := 18) (j := 3) in_Ro rfl (by decide) mw_336 d_Bh_reset_40)) (os_l (so_iload_n d_Bh_reset_43 rfl))) (os_n (os_l (so_iconst d_Bh_reset_44 (by decide))) (os_l (so_isub d_Bh_reset_45)))) (os_n (os_n (os_l (so_iconst d_Bh_reset_46 (by decide))) (os_l (so_bastore d_Bh_reset_47))) (os_n (os_l (so_iconst d_Bh_reset_48 (by decide))) (os_l (so_zreturn rfl d_Bh_reset_49)))))))
abbrev t_Bh_bars_22 : List UInt8 := 172 :: []
abbrev t_Bh_bars_21 : List UInt8 := 2 :: t_Bh_bars_22
abbrev t_Bh_bars_18 : List UInt8 := 167 :: 0 :: 4 :: t_Bh_bars_21
abbrev t_Bh_bars_15 : List UInt8 := 182 :: 1 :: 80 :: t_Bh_bars_18
abbrev t_Bh_bars_14 : List UInt8 := 27 :: t_Bh_bars_15
abbrev t_Bh_bars_11 : List UInt8 := 180 :: 0 :: 174 :: t_Bh_bars_14
abbrev t_Bh_bars_8 : List UInt8 := 180 :: 0 :: 53 :: t_Bh_bars_11
abbrev t_Bh_bars_7 : List UInt8 := 42 :: t_Bh_bars_8
abbrev t_Bh_bars_4 : List UInt8 := 153 :: 0 :: 17 :: t_Bh_bars_7
abbrev t_Bh_bars_1 : List UInt8 := 184 :: 0 :: 254 :: t_Bh_bars_4
abbrev t_Bh_bars_0 : List UInt8 := 27 :: t_Bh_bars_1
theorem a_Bh_bars_0 : dk_at b_Bh_bars 0 t_Bh_bars_0 := dk_start (by decide +kernel)
theorem a_Bh_bars_1 : dk_at b_Bh_bars 1 t_Bh_bars_1 := dk_go 1 a_Bh_bars_0 rfl
theorem a_Bh_bars_4 : dk_at b_Bh_bars 4 t_Bh_bars_4 := dk_go 3 a_Bh_bars_1 rfl
theorem a_Bh_bars_7 : dk_at b_Bh_bars 7 t_Bh_bars_7 := dk_go 3 a_Bh_bars_4 rfl
theorem a_Bh_bars_8 : dk_at b_Bh_bars 8 t_Bh_bars_8 := dk_go 1 a_Bh_bars_7 rfl
theorem a_Bh_bars_11 : dk_at b_Bh_bars 11 t_Bh_bars_11 := dk_go 3 a_Bh_bars_8 rfl
theorem a_Bh_bars_14 : dk_at b_Bh_bars 14 t_Bh_bars_14 := dk_go 3 a_Bh_bars_11 rfl
theorem a_Bh_bars_15 : dk_at b_Bh_bars 15 t_Bh_bars_15 := dk_go 1 a_Bh_bars_14 rfl
theorem a_Bh_bars_18 : dk_at b_Bh_bars 18 t_Bh_bars_18 := dk_go 3 a_Bh_bars_15 rfl
theorem a_Bh_bars_21 : dk_at b_Bh_bars 21 t_Bh_bars_21 := dk_go 3 a_Bh_bars_18 rfl
theorem a_Bh_bars_22 : dk_at b_Bh_bars 22 t_Bh_bars_22 := dk_go 1 a_Bh_bars_21 rfl
theorem d_Bh_bars_0 : decode b_Bh_bars 0 = .ok (.iload_n 1, 1) := dk_0 a_Bh_bars_0 (dko_27 _)
theorem d_Bh_bars_1 : decode b_Bh_bars 1 = .ok (.invokestatic 254, 3) := dk_U2 a_Bh_bars_1 (dko_184 _) rfl
theorem d_Bh_bars_4 : decode b_Bh_bars 4 = .ok (.ifCond .eq 17, 3) := dk_S2 a_Bh_bars_4 (dko_153 _) (by decide +kernel)
theorem d_Bh_bars_7 : decode b_Bh_bars 7 = .ok (.aload_n 0, 1) := dk_0 a_Bh_bars_7 (dko_42 _)
theorem d_Bh_bars_8 : decode b_Bh_bars 8 = .ok (.getfield 53, 3) := dk_U2 a_Bh_bars_8 (dko_180 _) rfl
theorem d_Bh_bars_11 : decode b_Bh_bars 11 = .ok (.getfield 174, 3) := dk_U2 a_Bh_bars_11 (dko_180 _) rfl
theorem d_Bh_bars_14 : decode b_Bh_bars 14 = .ok (.iload_n 1, 1) := dk_0 a_Bh_bars_14 (dko_27 _)
theorem d_Bh_bars_15 : decode b_Bh_bars 15 = .ok (.invokevirtual 336, 3) := dk_U2 a_Bh_bars_15 (dko_182 _) rfl
theorem d_Bh_bars_18 : decode b_Bh_bars 18 = .ok (.goto 4, 3) := dk_S2 a_Bh_bars_18 (dko_167 _) (by decide +kernel)
theorem d_Bh_bars_21 : decode b_Bh_bars 21 = .ok (.iconst (-1), 1) := dk_0 a_Bh_bars_21 (dko_2 _)
theorem d_Bh_bars_22 : decode b_Bh_bars 22 = .ok (.ireturn, 1) := dk_0 a_Bh_bars_22 (dko_172 _)
set_option maxHeartbeats 4000000 in
set_option maxRecDepth 100000 in
theorem ok_Bh_bars (pc : Nat) : OpS mt mi_Bh_bars pc (cs_Bh_bars pc) := (os_n (os_n (os_n (os_l (so_iload_n d_Bh_bars_0 rfl)) (os_l (so_callS (iv := mi_Ac_isAct) rfl mw_1185 mw_1179 mw_9 mw_1180 ⟨by decide +kernel, by decide +kernel, by decide +kernel⟩ (by decide) d_Bh_bars_1))) (os_n (os_l (so_ifeq d_Bh_bars_4 (by decide))) (os_n (os_l (so_aload_n d_Bh_bars_7 rfl)) (os_l (so_get (C := R_Bh) (T := F_Bh) (N := 16) (j := 5) in_Bh rfl (by decide) mw_689 d_Bh_bars_8))))) (os_n (os_n (os_l (so_get (C := R_Ac) (T := F_Ac) (N := 8) (j := 3) in_Ac rfl (by decide) mw_394 d_Bh_bars_11)) (os_n (os_l (so_iload_n d_Bh_bars_14 rfl)) (os_l (so_callV (iv := mi_Ro_barring) rfl rfl rfl mw_1508 mw_1209 mw_1210 mw_10 mw_1211 ⟨by decide +kernel, by decide +kernel, by decide +kernel⟩ (by decide) d_Bh_bars_15)))) (os_n (os_l (so_goto d_Bh_bars_18 (by decide))) (os_n (os_l (so_iconst d_Bh_bars_21 (by decide))) (os_l (so_ireturn rfl d_Bh_bars_22))))))
abbrev t_Bh_row_100 : List UInt8 := 172 :: []
abbrev t_Bh_row_99 : List UInt8 := 2 :: t_Bh_row_100
abbrev t_Bh_row_98 : List UInt8 := 172 :: t_Bh_row_99
abbrev t_Bh_row_97 : List UInt8 := 3 :: t_Bh_row_98
abbrev t_Bh_row_94 : List UInt8 := 167 :: 0 :: 4 :: t_Bh_row_97
abbrev t_Bh_row_93 : List UInt8 := 4 :: t_Bh_row_94
abbrev t_Bh_row_90 : List UInt8 := 153 :: 0 :: 7 :: t_Bh_row_93
abbrev t_Bh_row_87 : List UInt8 := 182 :: 1 :: 77 :: t_Bh_row_90
abbrev t_Bh_row_86 : List UInt8 := 100 :: t_Bh_row_87
abbrev t_Bh_row_85 : List UInt8 := 4 :: t_Bh_row_86
abbrev t_Bh_row_84 : List UInt8 := 27 :: t_Bh_row_85
abbrev t_Bh_row_83 : List UInt8 := 45 :: t_Bh_row_84
abbrev t_Bh_row_82 : List UInt8 := 172 :: t_Bh_row_83
abbrev t_Bh_row_81 : List UInt8 := 46 :: t_Bh_row_82
abbrev t_Bh_row_80 : List UInt8 := 100 :: t_Bh_row_81
abbrev t_Bh_row_79 : List UInt8 := 4 :: t_Bh_row_80
abbrev t_Bh_row_78 : List UInt8 := 27 :: t_Bh_row_79
abbrev t_Bh_row_75 : List UInt8 := 180 :: 1 :: 70 :: t_Bh_row_78
abbrev t_Bh_row_74 : List UInt8 := 45 :: t_Bh_row_75
abbrev t_Bh_row_73 : List UInt8 := 172 :: t_Bh_row_74
abbrev t_Bh_row_72 : List UInt8 := 3 :: t_Bh_row_73
abbrev t_Bh_row_69 : List UInt8 := 167 :: 0 :: 4 :: t_Bh_row_72
abbrev t_Bh_row_68 : List UInt8 := 4 :: t_Bh_row_69
abbrev t_Bh_row_65 : List UInt8 := 153 :: 0 :: 7 :: t_Bh_row_68
abbrev t_Bh_row_64 : List UInt8 := 51 :: t_Bh_row_65
abbrev t_Bh_row_63 : List UInt8 := 100 :: t_Bh_row_64
abbrev t_Bh_row_62 : List UInt8 := 4 :: t_Bh_row_63
abbrev t_Bh_row_61 : List UInt8 := 27 :: t_Bh_row_62
abbrev t_Bh_row_58 : List UInt8 := 180 :: 1 :: 73 :: t_Bh_row_61
abbrev t_Bh_row_57 : List UInt8 := 45 :: t_Bh_row_58
abbrev t_Bh_row_56 : List UInt8 := 172 :: t_Bh_row_57
abbrev t_Bh_row_55 : List UInt8 := 46 :: t_Bh_row_56
abbrev t_Bh_row_54 : List UInt8 := 100 :: t_Bh_row_55
abbrev t_Bh_row_53 : List UInt8 := 4 :: t_Bh_row_54
abbrev t_Bh_row_52 : List UInt8 := 27 :: t_Bh_row_53
abbrev t_Bh_row_49 : List UInt8 := 180 :: 1 :: 83 :: t_Bh_row_52
abbrev t_Bh_row_48 : List UInt8 := 45 :: t_Bh_row_49
abbrev t_Bh_row_19 : List UInt8 := 170 :: 0 :: 0 :: 0 :: 80 :: 0 :: 0 :: 0 :: 0 :: 0 :: 0 :: 0 :: 3 :: 0 :: 0 :: 0 :: 29 :: 0 :: 0 :: 0 :: 38 :: 0 :: 0 :: 0 :: 55 :: 0 :: 0 :: 0 :: 64 :: t_Bh_row_48
abbrev t_Bh_row_18 : List UInt8 := 28 :: t_Bh_row_19
abbrev t_Bh_row_17 : List UInt8 := 172 :: t_Bh_row_18
abbrev t_Bh_row_16 : List UInt8 := 2 :: t_Bh_row_17
abbrev t_Bh_row_13 : List UInt8 := 154 :: 0 :: 5 :: t_Bh_row_16
abbrev t_Bh_row_10 : List UInt8 := 182 :: 1 :: 64 :: t_Bh_row_13
abbrev t_Bh_row_9 : List UInt8 := 27 :: t_Bh_row_10
abbrev t_Bh_row_8 : List UInt8 := 45 :: t_Bh_row_9
abbrev t_Bh_row_7 : List UInt8 := 78 :: t_Bh_row_8
abbrev t_Bh_row_4 : List UInt8 := 180 :: 0 :: 174 :: t_Bh_row_7
abbrev t_Bh_row_1 : List UInt8 := 180 :: 0 :: 53 :: t_Bh_row_4
abbrev t_Bh_row_0 : List UInt8 := 42 :: t_Bh_row_1
theorem a_Bh_row_0 : dk_at b_Bh_row 0 t_Bh_row_0 := dk_start (by decide +kernel)
theorem a_Bh_row_1 : dk_at b_Bh_row 1 t_Bh_row_1 := dk_go 1 a_Bh_row_0 rfl
theorem a_Bh_row_4 : dk_at b_Bh_row 4 t_Bh_row_4 := dk_go 3 a_Bh_row_1 rfl
theorem a_Bh_row_7 : dk_at b_Bh_row 7 t_Bh_row_7 := dk_go 3 a_Bh_row_4 rfl
theorem a_Bh_row_8 : dk_at b_Bh_row 8 t_Bh_row_8 := dk_go 1 a_Bh_row_7 rfl
theorem a_Bh_row_9 : dk_at b_Bh_row 9 t_Bh_row_9 := dk_go 1 a_Bh_row_8 rfl
theorem a_Bh_row_10 : dk_at b_Bh_row 10 t_Bh_row_10 := dk_go 1 a_Bh_row_9 rfl
theorem a_Bh_row_13 : dk_at b_Bh_row 13 t_Bh_row_13 := dk_go 3 a_Bh_row_10 rfl
theorem a_Bh_row_16 : dk_at b_Bh_row 16 t_Bh_row_16 := dk_go 3 a_Bh_row_13 rfl
theorem a_Bh_row_17 : dk_at b_Bh_row 17 t_Bh_row_17 := dk_go 1 a_Bh_row_16 rfl
theorem a_Bh_row_18 : dk_at b_Bh_row 18 t_Bh_row_18 := dk_go 1 a_Bh_row_17 rfl
theorem a_Bh_row_19 : dk_at b_Bh_row 19 t_Bh_row_19 := dk_go 1 a_Bh_row_18 rfl
theorem a_Bh_row_48 : dk_at b_Bh_row 48 t_Bh_row_48 := dk_go 29 a_Bh_row_19 rfl
theorem a_Bh_row_49 : dk_at b_Bh_row 49 t_Bh_row_49 := dk_go 1 a_Bh_row_48 rfl
theorem a_Bh_row_52 : dk_at b_Bh_row 52 t_Bh_row_52 := dk_go 3 a_Bh_row_49 rfl
theorem a_Bh_row_53 : dk_at b_Bh_row 53 t_Bh_row_53 := dk_go 1 a_Bh_row_52 rfl
theorem a_Bh_row_54 : dk_at b_Bh_row 54 t_Bh_row_54 := dk_go 1 a_Bh_row_53 rfl
theorem a_Bh_row_55 : dk_at b_Bh_row 55 t_Bh_row_55 := dk_go 1 a_Bh_row_54 rfl
theorem a_Bh_row_56 : dk_at b_Bh_row 56 t_Bh_row_56 := dk_go 1 a_Bh_row_55 rfl
theorem a_Bh_row_57 : dk_at b_Bh_row 57 t_Bh_row_57 := dk_go 1 a_Bh_row_56 rfl
theorem a_Bh_row_58 : dk_at b_Bh_row 58 t_Bh_row_58 := dk_go 1 a_Bh_row_57 rfl
theorem a_Bh_row_61 : dk_at b_Bh_row 61 t_Bh_row_61 := dk_go 3 a_Bh_row_58 rfl
theorem a_Bh_row_62 : dk_at b_Bh_row 62 t_Bh_row_62 := dk_go 1 a_Bh_row_61 rfl
theorem a_Bh_row_63 : dk_at b_Bh_row 63 t_Bh_row_63 := dk_go 1 a_Bh_row_62 rfl
theorem a_Bh_row_64 : dk_at b_Bh_row 64 t_Bh_row_64 := dk_go 1 a_Bh_row_63 rfl
theorem a_Bh_row_65 : dk_at b_Bh_row 65 t_Bh_row_65 := dk_go 1 a_Bh_row_64 rfl
theorem a_Bh_row_68 : dk_at b_Bh_row 68 t_Bh_row_68 := dk_go 3 a_Bh_row_65 rfl
theorem a_Bh_row_69 : dk_at b_Bh_row 69 t_Bh_row_69 := dk_go 1 a_Bh_row_68 rfl
theorem a_Bh_row_72 : dk_at b_Bh_row 72 t_Bh_row_72 := dk_go 3 a_Bh_row_69 rfl
theorem a_Bh_row_73 : dk_at b_Bh_row 73 t_Bh_row_73 := dk_go 1 a_Bh_row_72 rfl
theorem a_Bh_row_74 : dk_at b_Bh_row 74 t_Bh_row_74 := dk_go 1 a_Bh_row_73 rfl
theorem a_Bh_row_75 : dk_at b_Bh_row 75 t_Bh_row_75 := dk_go 1 a_Bh_row_74 rfl
theorem a_Bh_row_78 : dk_at b_Bh_row 78 t_Bh_row_78 := dk_go 3 a_Bh_row_75 rfl
theorem a_Bh_row_79 : dk_at b_Bh_row 79 t_Bh_row_79 := dk_go 1 a_Bh_row_78 rfl
theorem a_Bh_row_80 : dk_at b_Bh_row 80 t_Bh_row_80 := dk_go 1 a_Bh_row_79 rfl
theorem a_Bh_row_81 : dk_at b_Bh_row 81 t_Bh_row_81 := dk_go 1 a_Bh_row_80 rfl
theorem a_Bh_row_82 : dk_at b_Bh_row 82 t_Bh_row_82 := dk_go 1 a_Bh_row_81 rfl
theorem a_Bh_row_83 : dk_at b_Bh_row 83 t_Bh_row_83 := dk_go 1 a_Bh_row_82 rfl
theorem a_Bh_row_84 : dk_at b_Bh_row 84 t_Bh_row_84 := dk_go 1 a_Bh_row_83 rfl
theorem a_Bh_row_85 : dk_at b_Bh_row 85 t_Bh_row_85 := dk_go 1 a_Bh_row_84 rfl
theorem a_Bh_row_86 : dk_at b_Bh_row 86 t_Bh_row_86 := dk_go 1 a_Bh_row_85 rfl
theorem a_Bh_row_87 : dk_at b_Bh_row 87 t_Bh_row_87 := dk_go 1 a_Bh_row_86 rfl
theorem a_Bh_row_90 : dk_at b_Bh_row 90 t_Bh_row_90 := dk_go 3 a_Bh_row_87 rfl
theorem a_Bh_row_93 : dk_at b_Bh_row 93 t_Bh_row_93 := dk_go 3 a_Bh_row_90 rfl
theorem a_Bh_row_94 : dk_at b_Bh_row 94 t_Bh_row_94 := dk_go 1 a_Bh_row_93 rfl
theorem a_Bh_row_97 : dk_at b_Bh_row 97 t_Bh_row_97 := dk_go 3 a_Bh_row_94 rfl
theorem a_Bh_row_98 : dk_at b_Bh_row 98 t_Bh_row_98 := dk_go 1 a_Bh_row_97 rfl
theorem a_Bh_row_99 : dk_at b_Bh_row 99 t_Bh_row_99 := dk_go 1 a_Bh_row_98 rfl
theorem a_Bh_row_100 : dk_at b_Bh_row 100 t_Bh_row_100 := dk_go 1 a_Bh_row_99 rfl
theorem d_Bh_row_0 : decode b_Bh_row 0 = .ok (.aload_n 0, 1) := dk_0 a_Bh_row_0 (dko_42 _)
theorem d_Bh_row_1 : decode b_Bh_row 1 = .ok (.getfield 53, 3) := dk_U2 a_Bh_row_1 (dko_180 _) rfl
theorem d_Bh_row_4 : decode b_Bh_row 4 = .ok (.getfield 174, 3) := dk_U2 a_Bh_row_4 (dko_180 _) rfl
theorem d_Bh_row_7 : decode b_Bh_row 7 = .ok (.astore_n 3, 1) := dk_0 a_Bh_row_7 (dko_78 _)
theorem d_Bh_row_8 : decode b_Bh_row 8 = .ok (.aload_n 3, 1) := dk_0 a_Bh_row_8 (dko_45 _)
theorem d_Bh_row_9 : decode b_Bh_row 9 = .ok (.iload_n 1, 1) := dk_0 a_Bh_row_9 (dko_27 _)
theorem d_Bh_row_10 : decode b_Bh_row 10 = .ok (.invokevirtual 320, 3) := dk_U2 a_Bh_row_10 (dko_182 _) rfl
theorem d_Bh_row_13 : decode b_Bh_row 13 = .ok (.ifCond .ne 5, 3) := dk_S2 a_Bh_row_13 (dko_154 _) (by decide +kernel)
theorem d_Bh_row_16 : decode b_Bh_row 16 = .ok (.iconst (-1), 1) := dk_0 a_Bh_row_16 (dko_2 _)
theorem d_Bh_row_17 : decode b_Bh_row 17 = .ok (.ireturn, 1) := dk_0 a_Bh_row_17 (dko_172 _)
theorem d_Bh_row_18 : decode b_Bh_row 18 = .ok (.iload_n 2, 1) := dk_0 a_Bh_row_18 (dko_28 _)
theorem d_Bh_row_19 : decode b_Bh_row 19 = .ok (.tableswitch 80 0 3 #[29, 38, 55, 64], 29) := by decide +kernel
theorem d_Bh_row_48 : decode b_Bh_row 48 = .ok (.aload_n 3, 1) := dk_0 a_Bh_row_48 (dko_45 _)
theorem d_Bh_row_49 : decode b_Bh_row 49 = .ok (.getfield 339, 3) := dk_U2 a_Bh_row_49 (dko_180 _) rfl
theorem d_Bh_row_52 : decode b_Bh_row 52 = .ok (.iload_n 1, 1) := dk_0 a_Bh_row_52 (dko_27 _)
theorem d_Bh_row_53 : decode b_Bh_row 53 = .ok (.iconst 1, 1) := dk_0 a_Bh_row_53 (dko_4 _)
theorem d_Bh_row_54 : decode b_Bh_row 54 = .ok (.isub, 1) := dk_0 a_Bh_row_54 (dko_100 _)
theorem d_Bh_row_55 : decode b_Bh_row 55 = .ok (.iaload, 1) := dk_0 a_Bh_row_55 (dko_46 _)
theorem d_Bh_row_56 : decode b_Bh_row 56 = .ok (.ireturn, 1) := dk_0 a_Bh_row_56 (dko_172 _)
theorem d_Bh_row_57 : decode b_Bh_row 57 = .ok (.aload_n 3, 1) := dk_0 a_Bh_row_57 (dko_45 _)
theorem d_Bh_row_58 : decode b_Bh_row 58 = .ok (.getfield 329, 3) := dk_U2 a_Bh_row_58 (dko_180 _) rfl
theorem d_Bh_row_61 : decode b_Bh_row 61 = .ok (.iload_n 1, 1) := dk_0 a_Bh_row_61 (dko_27 _)
theorem d_Bh_row_62 : decode b_Bh_row 62 = .ok (.iconst 1, 1) := dk_0 a_Bh_row_62 (dko_4 _)
theorem d_Bh_row_63 : decode b_Bh_row 63 = .ok (.isub, 1) := dk_0 a_Bh_row_63 (dko_100 _)
theorem d_Bh_row_64 : decode b_Bh_row 64 = .ok (.baload, 1) := dk_0 a_Bh_row_64 (dko_51 _)
theorem d_Bh_row_65 : decode b_Bh_row 65 = .ok (.ifCond .eq 7, 3) := dk_S2 a_Bh_row_65 (dko_153 _) (by decide +kernel)
theorem d_Bh_row_68 : decode b_Bh_row 68 = .ok (.iconst 1, 1) := dk_0 a_Bh_row_68 (dko_4 _)
theorem d_Bh_row_69 : decode b_Bh_row 69 = .ok (.goto 4, 3) := dk_S2 a_Bh_row_69 (dko_167 _) (by decide +kernel)
theorem d_Bh_row_72 : decode b_Bh_row 72 = .ok (.iconst 0, 1) := dk_0 a_Bh_row_72 (dko_3 _)
theorem d_Bh_row_73 : decode b_Bh_row 73 = .ok (.ireturn, 1) := dk_0 a_Bh_row_73 (dko_172 _)
theorem d_Bh_row_74 : decode b_Bh_row 74 = .ok (.aload_n 3, 1) := dk_0 a_Bh_row_74 (dko_45 _)
theorem d_Bh_row_75 : decode b_Bh_row 75 = .ok (.getfield 326, 3) := dk_U2 a_Bh_row_75 (dko_180 _) rfl
theorem d_Bh_row_78 : decode b_Bh_row 78 = .ok (.iload_n 1, 1) := dk_0 a_Bh_row_78 (dko_27 _)
theorem d_Bh_row_79 : decode b_Bh_row 79 = .ok (.iconst 1, 1) := dk_0 a_Bh_row_79 (dko_4 _)
theorem d_Bh_row_80 : decode b_Bh_row 80 = .ok (.isub, 1) := dk_0 a_Bh_row_80 (dko_100 _)
theorem d_Bh_row_81 : decode b_Bh_row 81 = .ok (.iaload, 1) := dk_0 a_Bh_row_81 (dko_46 _)
theorem d_Bh_row_82 : decode b_Bh_row 82 = .ok (.ireturn, 1) := dk_0 a_Bh_row_82 (dko_172 _)
theorem d_Bh_row_83 : decode b_Bh_row 83 = .ok (.aload_n 3, 1) := dk_0 a_Bh_row_83 (dko_45 _)
theorem d_Bh_row_84 : decode b_Bh_row 84 = .ok (.iload_n 1, 1) := dk_0 a_Bh_row_84 (dko_27 _)
theorem d_Bh_row_85 : decode b_Bh_row 85 = .ok (.iconst 1, 1) := dk_0 a_Bh_row_85 (dko_4 _)
theorem d_Bh_row_86 : decode b_Bh_row 86 = .ok (.isub, 1) := dk_0 a_Bh_row_86 (dko_100 _)
theorem d_Bh_row_87 : decode b_Bh_row 87 = .ok (.invokevirtual 333, 3) := dk_U2 a_Bh_row_87 (dko_182 _) rfl
theorem d_Bh_row_90 : decode b_Bh_row 90 = .ok (.ifCond .eq 7, 3) := dk_S2 a_Bh_row_90 (dko_153 _) (by decide +kernel)
theorem d_Bh_row_93 : decode b_Bh_row 93 = .ok (.iconst 1, 1) := dk_0 a_Bh_row_93 (dko_4 _)
theorem d_Bh_row_94 : decode b_Bh_row 94 = .ok (.goto 4, 3) := dk_S2 a_Bh_row_94 (dko_167 _) (by decide +kernel)
theorem d_Bh_row_97 : decode b_Bh_row 97 = .ok (.iconst 0, 1) := dk_0 a_Bh_row_97 (dko_3 _)
theorem d_Bh_row_98 : decode b_Bh_row 98 = .ok (.ireturn, 1) := dk_0 a_Bh_row_98 (dko_172 _)
theorem d_Bh_row_99 : decode b_Bh_row 99 = .ok (.iconst (-1), 1) := dk_0 a_Bh_row_99 (dko_2 _)
theorem d_Bh_row_100 : decode b_Bh_row 100 = .ok (.ireturn, 1) := dk_0 a_Bh_row_100 (dko_172 _)
set_option maxHeartbeats 4000000 in
set_option maxRecDepth 100000 in
theorem ok_Bh_row (pc : Nat) : OpS mt mi_Bh_row pc (cs_Bh_row pc) := (os_n (os_n (os_n (os_n (os_n (os_l (so_aload_n d_Bh_row_0 rfl)) (os_n (os_l (so_get (C := R_Bh) (T := F_Bh) (N := 16) (j := 5) in_Bh rfl (by decide) mw_689 d_Bh_row_1)) (os_l (so_get (C := R_Ac) (T := F_Ac) (N := 8) (j := 3) in_Ac rfl (by decide) mw_394 d_Bh_row_4)))) (os_n (os_l (so_astore_n d_Bh_row_7 rfl (by decide))) (os_n (os_l (so_aload_n d_Bh_row_8 rfl)) (os_l (so_iload_n d_Bh_row_9 rfl))))) (os_n (os_n (os_l (so_callV (iv := mi_Ro_has) rfl rfl rfl mw_1492 mw_1493 mw_1494 mw_10 mw_1495 ⟨by decide +kernel, by decide +kernel, by decide +kernel⟩ (by decide) d_Bh_row_10)) (os_n (os_l (so_ifne d_Bh_row_13 (by decide))) (os_l (so_iconst d_Bh_row_16 (by decide))))) (os_n (os_l (so_ireturn rfl d_Bh_row_17)) (os_n (os_l (so_iload_n d_Bh_row_18 rfl)) (os_l (so_tab d_Bh_row_19 (by decide) (by decide) (by decide))))))) (os_n (os_n (os_n (os_l (so_aload_n d_Bh_row_48 rfl)) (os_n (os_l (so_get (C := R_Ro) (T := F_Ro) (N := 18) (j := 2) in_Ro rfl (by decide) mw_334 d_Bh_row_49)) (os_l (so_iload_n d_Bh_row_52 rfl)))) (os_n (os_l (so_iconst d_Bh_row_53 (by decide))) (os_n (os_l (so_isub d_Bh_row_54)) (os_l (so_iaload d_Bh_row_55))))) (os_n (os_n (os_l (so_ireturn rfl d_Bh_row_56)) (os_n (os_l (so_aload_n d_Bh_row_57 rfl)) (os_l (so_get (C := R_Ro) (T := F_Ro) (N := 18) (j := 3) in_Ro rfl (by decide) mw_336 d_Bh_row_58)))) (os_n (os_l (so_iload_n d_Bh_row_61 rfl)) (os_n (os_l (so_iconst d_Bh_row_62 (by decide))) (os_l (so_isub d_Bh_row_63))))))) (os_n (os_n (os_n (os_n (os_l (so_baload d_Bh_row_64)) (os_n (os_l (so_ifeq d_Bh_row_65 (by decide))) (os_l (so_iconst d_Bh_row_68 (by decide))))) (os_n (os_l (so_goto d_Bh_row_69 (by decide))) (os_n (os_l (so_iconst d_Bh_row_72 (by decide))) (os_l (so_ireturn rfl d_Bh_row_73))))) (os_n (os_n (os_l (so_aload_n d_Bh_row_74 rfl)) (os_n (os_l (so_get (C := R_Ro) (T := F_Ro) (N := 18) (j := 4) in_Ro rfl (by decide) mw_338 d_Bh_row_75)) (os_l (so_iload_n d_Bh_row_78 rfl)))) (os_n (os_l (so_iconst d_Bh_row_79 (by decide))) (os_n (os_l (so_isub d_Bh_row_80)) (os_l (so_iaload d_Bh_row_81)))))) (os_n (os_n (os_n (os_l (so_ireturn rfl d_Bh_row_82)) (os_n (os_l (so_aload_n d_Bh_row_83 rfl)) (os_l (so_iload_n d_Bh_row_84 rfl)))) (os_n (os_l (so_iconst d_Bh_row_85 (by decide))) (os_n (os_l (so_isub d_Bh_row_86)) (os_l (so_callV (iv := mi_Ro_isOn) rfl rfl rfl mw_1503 mw_1213 mw_1214 mw_10 mw_1215 ⟨by decide +kernel, by decide +kernel, by decide +kernel⟩ (by decide) d_Bh_row_87))))) (os_n (os_n (os_l (so_ifeq d_Bh_row_90 (by decide))) (os_n (os_l (so_iconst d_Bh_row_93 (by decide))) (os_l (so_goto d_Bh_row_94 (by decide))))) (os_n (os_n (os_l (so_iconst d_Bh_row_97 (by decide))) (os_l (so_ireturn rfl d_Bh_row_98))) (os_n (os_l (so_iconst d_Bh_row_99 (by decide))) (os_l (so_ireturn rfl d_Bh_row_100))))))))
abbrev t_Bh_state_7 : List UInt8 := 172 :: []
abbrev t_Bh_state_4 : List UInt8 := 180 :: 0 :: 161 :: t_Bh_state_7
abbrev t_Bh_state_1 : List UInt8 := 180 :: 0 :: 62 :: t_Bh_state_4
abbrev t_Bh_state_0 : List UInt8 := 42 :: t_Bh_state_1
theorem a_Bh_state_0 : dk_at b_Bh_state 0 t_Bh_state_0 := dk_start (by decide +kernel)
theorem a_Bh_state_1 : dk_at b_Bh_state 1 t_Bh_state_1 := dk_go 1 a_Bh_state_0 rfl
theorem a_Bh_state_4 : dk_at b_Bh_state 4 t_Bh_state_4 := dk_go 3 a_Bh_state_1 rfl
theorem a_Bh_state_7 : dk_at b_Bh_state 7 t_Bh_state_7 := dk_go 3 a_Bh_state_4 rfl
theorem d_Bh_state_0 : decode b_Bh_state 0 = .ok (.aload_n 0, 1) := dk_0 a_Bh_state_0 (dko_42 _)
theorem d_Bh_state_1 : decode b_Bh_state 1 = .ok (.getfield 62, 3) := dk_U2 a_Bh_state_1 (dko_180 _) rfl
theorem d_Bh_state_4 : decode b_Bh_state 4 = .ok (.getfield 161, 3) := dk_U2 a_Bh_state_4 (dko_180 _) rfl
theorem d_Bh_state_7 : decode b_Bh_state 7 = .ok (.ireturn, 1) := dk_0 a_Bh_state_7 (dko_172 _)
set_option maxHeartbeats 4000000 in
set_option maxRecDepth 100000 in
theorem ok_Bh_state (pc : Nat) : OpS mt mi_Bh_state pc (cs_Bh_state pc) := (os_n (os_n (os_l (so_aload_n d_Bh_state_0 rfl)) (os_l (so_get (C := R_Bh) (T := F_Bh) (N := 16) (j := 6) in_Bh rfl (by decide) mw_690 d_Bh_state_1))) (os_n (os_l (so_get (C := R_Ru) (T := F_Ru) (N := 21) (j := 4) in_Ru rfl (by decide) mw_517 d_Bh_state_4)) (os_l (so_ireturn rfl d_Bh_state_7))))
abbrev t_Bh_value_30 : List UInt8 := 173 :: []
abbrev t_Bh_value_29 : List UInt8 := 9 :: t_Bh_value_30
abbrev t_Bh_value_26 : List UInt8 := 167 :: 0 :: 4 :: t_Bh_value_29
abbrev t_Bh_value_25 : List UInt8 := 47 :: t_Bh_value_26
abbrev t_Bh_value_24 : List UInt8 := 27 :: t_Bh_value_25
abbrev t_Bh_value_21 : List UInt8 := 180 :: 0 :: 247 :: t_Bh_value_24
abbrev t_Bh_value_18 : List UInt8 := 180 :: 0 :: 183 :: t_Bh_value_21
abbrev t_Bh_value_15 : List UInt8 := 180 :: 0 :: 62 :: t_Bh_value_18
abbrev t_Bh_value_14 : List UInt8 := 42 :: t_Bh_value_15
abbrev t_Bh_value_11 : List UInt8 := 153 :: 0 :: 18 :: t_Bh_value_14
abbrev t_Bh_value_8 : List UInt8 := 182 :: 1 :: 86 :: t_Bh_value_11
abbrev t_Bh_value_7 : List UInt8 := 27 :: t_Bh_value_8
abbrev t_Bh_value_4 : List UInt8 := 180 :: 0 :: 183 :: t_Bh_value_7
abbrev t_Bh_value_1 : List UInt8 := 180 :: 0 :: 62 :: t_Bh_value_4
abbrev t_Bh_value_0 : List UInt8 := 42 :: t_Bh_value_1
theorem a_Bh_value_0 : dk_at b_Bh_value 0 t_Bh_value_0 := dk_start (by decide +kernel)
theorem a_Bh_value_1 : dk_at b_Bh_value 1 t_Bh_value_1 := dk_go 1 a_Bh_value_0 rfl
theorem a_Bh_value_4 : dk_at b_Bh_value 4 t_Bh_value_4 := dk_go 3 a_Bh_value_1 rfl
theorem a_Bh_value_7 : dk_at b_Bh_value 7 t_Bh_value_7 := dk_go 3 a_Bh_value_4 rfl
theorem a_Bh_value_8 : dk_at b_Bh_value 8 t_Bh_value_8 := dk_go 1 a_Bh_value_7 rfl
theorem a_Bh_value_11 : dk_at b_Bh_value 11 t_Bh_value_11 := dk_go 3 a_Bh_value_8 rfl
theorem a_Bh_value_14 : dk_at b_Bh_value 14 t_Bh_value_14 := dk_go 3 a_Bh_value_11 rfl
theorem a_Bh_value_15 : dk_at b_Bh_value 15 t_Bh_value_15 := dk_go 1 a_Bh_value_14 rfl
theorem a_Bh_value_18 : dk_at b_Bh_value 18 t_Bh_value_18 := dk_go 3 a_Bh_value_15 rfl
theorem a_Bh_value_21 : dk_at b_Bh_value 21 t_Bh_value_21 := dk_go 3 a_Bh_value_18 rfl
theorem a_Bh_value_24 : dk_at b_Bh_value 24 t_Bh_value_24 := dk_go 3 a_Bh_value_21 rfl
theorem a_Bh_value_25 : dk_at b_Bh_value 25 t_Bh_value_25 := dk_go 1 a_Bh_value_24 rfl
theorem a_Bh_value_26 : dk_at b_Bh_value 26 t_Bh_value_26 := dk_go 1 a_Bh_value_25 rfl
theorem a_Bh_value_29 : dk_at b_Bh_value 29 t_Bh_value_29 := dk_go 3 a_Bh_value_26 rfl
theorem a_Bh_value_30 : dk_at b_Bh_value 30 t_Bh_value_30 := dk_go 1 a_Bh_value_29 rfl
theorem d_Bh_value_0 : decode b_Bh_value 0 = .ok (.aload_n 0, 1) := dk_0 a_Bh_value_0 (dko_42 _)
theorem d_Bh_value_1 : decode b_Bh_value 1 = .ok (.getfield 62, 3) := dk_U2 a_Bh_value_1 (dko_180 _) rfl
theorem d_Bh_value_4 : decode b_Bh_value 4 = .ok (.getfield 183, 3) := dk_U2 a_Bh_value_4 (dko_180 _) rfl
theorem d_Bh_value_7 : decode b_Bh_value 7 = .ok (.iload_n 1, 1) := dk_0 a_Bh_value_7 (dko_27 _)
theorem d_Bh_value_8 : decode b_Bh_value 8 = .ok (.invokevirtual 342, 3) := dk_U2 a_Bh_value_8 (dko_182 _) rfl
theorem d_Bh_value_11 : decode b_Bh_value 11 = .ok (.ifCond .eq 18, 3) := dk_S2 a_Bh_value_11 (dko_153 _) (by decide +kernel)
theorem d_Bh_value_14 : decode b_Bh_value 14 = .ok (.aload_n 0, 1) := dk_0 a_Bh_value_14 (dko_42 _)
theorem d_Bh_value_15 : decode b_Bh_value 15 = .ok (.getfield 62, 3) := dk_U2 a_Bh_value_15 (dko_180 _) rfl
theorem d_Bh_value_18 : decode b_Bh_value 18 = .ok (.getfield 183, 3) := dk_U2 a_Bh_value_18 (dko_180 _) rfl
theorem d_Bh_value_21 : decode b_Bh_value 21 = .ok (.getfield 247, 3) := dk_U2 a_Bh_value_21 (dko_180 _) rfl
theorem d_Bh_value_24 : decode b_Bh_value 24 = .ok (.iload_n 1, 1) := dk_0 a_Bh_value_24 (dko_27 _)
theorem d_Bh_value_25 : decode b_Bh_value 25 = .ok (.laload, 1) := dk_0 a_Bh_value_25 (dko_47 _)
theorem d_Bh_value_26 : decode b_Bh_value 26 = .ok (.goto 4, 3) := dk_S2 a_Bh_value_26 (dko_167 _) (by decide +kernel)
theorem d_Bh_value_29 : decode b_Bh_value 29 = .ok (.lconst 0, 1) := dk_0 a_Bh_value_29 (dko_9 _)
theorem d_Bh_value_30 : decode b_Bh_value 30 = .ok (.lreturn, 1) := dk_0 a_Bh_value_30 (dko_173 _)
set_option maxHeartbeats 4000000 in
set_option maxRecDepth 100000 in
theorem ok_Bh_value (pc : Nat) : OpS mt mi_Bh_value pc (cs_Bh_value pc) := (os_n (os_n (os_n (os_l (so_aload_n d_Bh_value_0 rfl)) (os_n (os_l (so_get (C := R_Bh) (T := F_Bh) (N := 16) (j := 6) in_Bh rfl (by decide) mw_690 d_Bh_value_1)) (os_l (so_get (C := R_Ru) (T := F_Ru) (N := 21) (j := 3) in_Ru rfl (by decide) mw_515 d_Bh_value_4)))) (os_n (os_n (os_l (so_iload_n d_Bh_value_7 rfl)) (os_l (so_callV (iv := mi_Pr_hasValue) rfl rfl rfl mw_1521 mw_952 mw_953 mw_12 mw_954 ⟨by decide +kernel, by decide +kernel, by decide +kernel⟩ (by decide) d_Bh_value_8))) (os_n (os_l (so_ifeq d_Bh_value_11 (by decide))) (os_l (so_aload_n d_Bh_value_14 rfl))))) (os_n (os_n (os_n (os_l (so_get (C := R_Bh) (T := F_Bh) (N := 16) (j := 6) in_Bh rfl (by decide) mw_690 d_Bh_value_15)) (os_l (so_get (C := R_Ru) (T := F_Ru) (N := 21) (j := 3) in_Ru rfl (by decide) mw_515 d_Bh_value_18))) (os_n (os_l (so_get (C := R_Pr) (T := F_Pr) (N := 18) (j := 15) in_Pr rfl (by decide) mw_468 d_Bh_value_21)) (os_l (so_iload_n d_Bh_value_24 rfl)))) (os_n (os_n (os_l (so_laload d_Bh_value_25)) (os_l (so_goto d_Bh_value_26 (by decide)))) (os_n (os_l (so_lconst d_Bh_value_29 (by decide))) (os_l (so_lreturn rfl d_Bh_value_30))))))
abbrev t_Bh_still_8 : List UInt8 := 172 :: []
abbrev t_Bh_still_5 : List UInt8 := 182 :: 1 :: 89 :: t_Bh_still_8
abbrev t_Bh_still_4 : List UInt8 := 27 :: t_Bh_still_5
abbrev t_Bh_still_1 : List UInt8 := 180 :: 0 :: 62 :: t_Bh_still_4
abbrev t_Bh_still_0 : List UInt8 := 42 :: t_Bh_still_1
theorem a_Bh_still_0 : dk_at b_Bh_still 0 t_Bh_still_0 := dk_start (by decide +kernel)
theorem a_Bh_still_1 : dk_at b_Bh_still 1 t_Bh_still_1 := dk_go 1 a_Bh_still_0 rfl
theorem a_Bh_still_4 : dk_at b_Bh_still 4 t_Bh_still_4 := dk_go 3 a_Bh_still_1 rfl
theorem a_Bh_still_5 : dk_at b_Bh_still 5 t_Bh_still_5 := dk_go 1 a_Bh_still_4 rfl
theorem a_Bh_still_8 : dk_at b_Bh_still 8 t_Bh_still_8 := dk_go 3 a_Bh_still_5 rfl
theorem d_Bh_still_0 : decode b_Bh_still 0 = .ok (.aload_n 0, 1) := dk_0 a_Bh_still_0 (dko_42 _)
theorem d_Bh_still_1 : decode b_Bh_still 1 = .ok (.getfield 62, 3) := dk_U2 a_Bh_still_1 (dko_180 _) rfl
theorem d_Bh_still_4 : decode b_Bh_still 4 = .ok (.iload_n 1, 1) := dk_0 a_Bh_still_4 (dko_27 _)
theorem d_Bh_still_5 : decode b_Bh_still 5 = .ok (.invokevirtual 345, 3) := dk_U2 a_Bh_still_5 (dko_182 _) rfl
theorem d_Bh_still_8 : decode b_Bh_still 8 = .ok (.ireturn, 1) := dk_0 a_Bh_still_8 (dko_172 _)
set_option maxHeartbeats 4000000 in
set_option maxRecDepth 100000 in
theorem ok_Bh_still (pc : Nat) : OpS mt mi_Bh_still pc (cs_Bh_still pc) := (os_n (os_n (os_l (so_aload_n d_Bh_still_0 rfl)) (os_l (so_get (C := R_Bh) (T := F_Bh) (N := 16) (j := 6) in_Bh rfl (by decide) mw_690 d_Bh_still_1))) (os_n (os_l (so_iload_n d_Bh_still_4 rfl)) (os_n (os_l (so_callV (iv := mi_Ru_standingNode) rfl rfl rfl mw_1526 mw_1527 mw_1528 mw_11 mw_1529 ⟨by decide +kernel, by decide +kernel, by decide +kernel⟩ (by decide) d_Bh_still_5)) (os_l (so_ireturn rfl d_Bh_still_8)))))
abbrev t_Bh_alarm_9 : List UInt8 := 172 :: []
abbrev t_Bh_alarm_6 : List UInt8 := 182 :: 1 :: 92 :: t_Bh_alarm_9
abbrev t_Bh_alarm_5 : List UInt8 := 28 :: t_Bh_alarm_6
abbrev t_Bh_alarm_4 : List UInt8 := 27 :: t_Bh_alarm_5
abbrev t_Bh_alarm_1 : List UInt8 := 180 :: 0 :: 19 :: t_Bh_alarm_4
abbrev t_Bh_alarm_0 : List UInt8 := 42 :: t_Bh_alarm_1
theorem a_Bh_alarm_0 : dk_at b_Bh_alarm 0 t_Bh_alarm_0 := dk_start (by decide +kernel)
theorem a_Bh_alarm_1 : dk_at b_Bh_alarm 1 t_Bh_alarm_1 := dk_go 1 a_Bh_alarm_0 rfl
theorem a_Bh_alarm_4 : dk_at b_Bh_alarm 4 t_Bh_alarm_4 := dk_go 3 a_Bh_alarm_1 rfl
theorem a_Bh_alarm_5 : dk_at b_Bh_alarm 5 t_Bh_alarm_5 := dk_go 1 a_Bh_alarm_4 rfl
theorem a_Bh_alarm_6 : dk_at b_Bh_alarm 6 t_Bh_alarm_6 := dk_go 1 a_Bh_alarm_5 rfl
theorem a_Bh_alarm_9 : dk_at b_Bh_alarm 9 t_Bh_alarm_9 := dk_go 3 a_Bh_alarm_6 rfl
theorem d_Bh_alarm_0 : decode b_Bh_alarm 0 = .ok (.aload_n 0, 1) := dk_0 a_Bh_alarm_0 (dko_42 _)
theorem d_Bh_alarm_1 : decode b_Bh_alarm 1 = .ok (.getfield 19, 3) := dk_U2 a_Bh_alarm_1 (dko_180 _) rfl
theorem d_Bh_alarm_4 : decode b_Bh_alarm 4 = .ok (.iload_n 1, 1) := dk_0 a_Bh_alarm_4 (dko_27 _)
theorem d_Bh_alarm_5 : decode b_Bh_alarm 5 = .ok (.iload_n 2, 1) := dk_0 a_Bh_alarm_5 (dko_28 _)
theorem d_Bh_alarm_6 : decode b_Bh_alarm 6 = .ok (.invokevirtual 348, 3) := dk_U2 a_Bh_alarm_6 (dko_182 _) rfl
theorem d_Bh_alarm_9 : decode b_Bh_alarm 9 = .ok (.ireturn, 1) := dk_0 a_Bh_alarm_9 (dko_172 _)
set_option maxHeartbeats 4000000 in
set_option maxRecDepth 100000 in
theorem ok_Bh_alarm (pc : Nat) : OpS mt mi_Bh_alarm pc (cs_Bh_alarm pc) := (os_n (os_n (os_l (so_aload_n d_Bh_alarm_0 rfl)) (os_n (os_l (so_get (C := R_Bh) (T := F_Bh) (N := 16) (j := 1) in_Bh rfl (by decide) mw_685 d_Bh_alarm_1)) (os_l (so_iload_n d_Bh_alarm_4 rfl)))) (os_n (os_l (so_iload_n d_Bh_alarm_5 rfl)) (os_n (os_l (so_callV (iv := mi_Al_get) rfl rfl rfl mw_1535 mw_1536 mw_1537 mw_3 mw_1538 ⟨by decide +kernel, by decide +kernel, by decide +kernel⟩ (by decide) d_Bh_alarm_6)) (os_l (so_ireturn rfl d_Bh_alarm_9)))))
abbrev t_Bh_way_9 : List UInt8 := 172 :: []
abbrev t_Bh_way_6 : List UInt8 := 182 :: 1 :: 96 :: t_Bh_way_9
abbrev t_Bh_way_5 : List UInt8 := 28 :: t_Bh_way_6
abbrev t_Bh_way_4 : List UInt8 := 27 :: t_Bh_way_5
abbrev t_Bh_way_1 : List UInt8 := 180 :: 0 :: 35 :: t_Bh_way_4
abbrev t_Bh_way_0 : List UInt8 := 42 :: t_Bh_way_1
theorem a_Bh_way_0 : dk_at b_Bh_way 0 t_Bh_way_0 := dk_start (by decide +kernel)
theorem a_Bh_way_1 : dk_at b_Bh_way 1 t_Bh_way_1 := dk_go 1 a_Bh_way_0 rfl
theorem a_Bh_way_4 : dk_at b_Bh_way 4 t_Bh_way_4 := dk_go 3 a_Bh_way_1 rfl
theorem a_Bh_way_5 : dk_at b_Bh_way 5 t_Bh_way_5 := dk_go 1 a_Bh_way_4 rfl
theorem a_Bh_way_6 : dk_at b_Bh_way 6 t_Bh_way_6 := dk_go 1 a_Bh_way_5 rfl
theorem a_Bh_way_9 : dk_at b_Bh_way 9 t_Bh_way_9 := dk_go 3 a_Bh_way_6 rfl
theorem d_Bh_way_0 : decode b_Bh_way 0 = .ok (.aload_n 0, 1) := dk_0 a_Bh_way_0 (dko_42 _)
theorem d_Bh_way_1 : decode b_Bh_way 1 = .ok (.getfield 35, 3) := dk_U2 a_Bh_way_1 (dko_180 _) rfl
theorem d_Bh_way_4 : decode b_Bh_way 4 = .ok (.iload_n 1, 1) := dk_0 a_Bh_way_4 (dko_27 _)
theorem d_Bh_way_5 : decode b_Bh_way 5 = .ok (.iload_n 2, 1) := dk_0 a_Bh_way_5 (dko_28 _)
theorem d_Bh_way_6 : decode b_Bh_way 6 = .ok (.invokevirtual 352, 3) := dk_U2 a_Bh_way_6 (dko_182 _) rfl
theorem d_Bh_way_9 : decode b_Bh_way 9 = .ok (.ireturn, 1) := dk_0 a_Bh_way_9 (dko_172 _)
set_option maxHeartbeats 4000000 in
set_option maxRecDepth 100000 in
theorem ok_Bh_way (pc : Nat) : OpS mt mi_Bh_way pc (cs_Bh_way pc) := (os_n (os_n (os_l (so_aload_n d_Bh_way_0 rfl)) (os_n (os_l (so_get (C := R_Bh) (T := F_Bh) (N := 16) (j := 3) in_Bh rfl (by decide) mw_687 d_Bh_way_1)) (os_l (so_iload_n d_Bh_way_4 rfl)))) (os_n (os_l (so_iload_n d_Bh_way_5 rfl)) (os_n (os_l (so_callV (iv := mi_Wa_get) rfl rfl rfl mw_1543 mw_1544 mw_1545 mw_7 mw_1546 ⟨by decide +kernel, by decide +kernel, by decide +kernel⟩ (by decide) d_Bh_way_6)) (os_l (so_ireturn rfl d_Bh_way_9)))))
abbrev t_Bh_space_140 : List UInt8 := 172 :: []
abbrev t_Bh_space_139 : List UInt8 := 2 :: t_Bh_space_140
abbrev t_Bh_space_138 : List UInt8 := 172 :: t_Bh_space_139
abbrev t_Bh_space_135 : List UInt8 := 182 :: 1 :: 100 :: t_Bh_space_138
abbrev t_Bh_space_134 : List UInt8 := 27 :: t_Bh_space_135
abbrev t_Bh_space_131 : List UInt8 := 180 :: 0 :: 26 :: t_Bh_space_134
abbrev t_Bh_space_130 : List UInt8 := 42 :: t_Bh_space_131
abbrev t_Bh_space_129 : List UInt8 := 172 :: t_Bh_space_130
abbrev t_Bh_space_128 : List UInt8 := 46 :: t_Bh_space_129
abbrev t_Bh_space_127 : List UInt8 := 27 :: t_Bh_space_128
abbrev t_Bh_space_124 : List UInt8 := 180 :: 1 :: 97 :: t_Bh_space_127
abbrev t_Bh_space_121 : List UInt8 := 180 :: 0 :: 26 :: t_Bh_space_124
abbrev t_Bh_space_120 : List UInt8 := 42 :: t_Bh_space_121
abbrev t_Bh_space_117 : List UInt8 := 167 :: 0 :: 12 :: t_Bh_space_120
abbrev t_Bh_space_116 : List UInt8 := 46 :: t_Bh_space_117
abbrev t_Bh_space_115 : List UInt8 := 27 :: t_Bh_space_116
abbrev t_Bh_space_112 : List UInt8 := 180 :: 0 :: 215 :: t_Bh_space_115
abbrev t_Bh_space_109 : List UInt8 := 180 :: 0 :: 26 :: t_Bh_space_112
abbrev t_Bh_space_108 : List UInt8 := 42 :: t_Bh_space_109
abbrev t_Bh_space_105 : List UInt8 := 158 :: 0 :: 15 :: t_Bh_space_108
abbrev t_Bh_space_104 : List UInt8 := 46 :: t_Bh_space_105
abbrev t_Bh_space_103 : List UInt8 := 27 :: t_Bh_space_104
abbrev t_Bh_space_100 : List UInt8 := 180 :: 0 :: 215 :: t_Bh_space_103
abbrev t_Bh_space_97 : List UInt8 := 180 :: 0 :: 26 :: t_Bh_space_100
abbrev t_Bh_space_96 : List UInt8 := 42 :: t_Bh_space_97
abbrev t_Bh_space_95 : List UInt8 := 172 :: t_Bh_space_96
abbrev t_Bh_space_94 : List UInt8 := 46 :: t_Bh_space_95
abbrev t_Bh_space_93 : List UInt8 := 27 :: t_Bh_space_94
abbrev t_Bh_space_90 : List UInt8 := 180 :: 0 :: 208 :: t_Bh_space_93
abbrev t_Bh_space_87 : List UInt8 := 180 :: 0 :: 26 :: t_Bh_space_90
abbrev t_Bh_space_86 : List UInt8 := 42 :: t_Bh_space_87
abbrev t_Bh_space_85 : List UInt8 := 172 :: t_Bh_space_86
abbrev t_Bh_space_84 : List UInt8 := 46 :: t_Bh_space_85
abbrev t_Bh_space_83 : List UInt8 := 27 :: t_Bh_space_84
abbrev t_Bh_space_80 : List UInt8 := 180 :: 0 :: 215 :: t_Bh_space_83
abbrev t_Bh_space_77 : List UInt8 := 180 :: 0 :: 26 :: t_Bh_space_80
abbrev t_Bh_space_76 : List UInt8 := 42 :: t_Bh_space_77
abbrev t_Bh_space_44 : List UInt8 := 170 :: 0 :: 0 :: 0 :: 0 :: 0 :: 0 :: 95 :: 0 :: 0 :: 0 :: 0 :: 0 :: 0 :: 0 :: 3 :: 0 :: 0 :: 0 :: 32 :: 0 :: 0 :: 0 :: 42 :: 0 :: 0 :: 0 :: 52 :: 0 :: 0 :: 0 :: 86 :: t_Bh_space_76
abbrev t_Bh_space_43 : List UInt8 := 28 :: t_Bh_space_44
abbrev t_Bh_space_42 : List UInt8 := 172 :: t_Bh_space_43
abbrev t_Bh_space_41 : List UInt8 := 2 :: t_Bh_space_42
abbrev t_Bh_space_38 : List UInt8 := 154 :: 0 :: 5 :: t_Bh_space_41
abbrev t_Bh_space_35 : List UInt8 := 182 :: 1 :: 50 :: t_Bh_space_38
abbrev t_Bh_space_34 : List UInt8 := 27 :: t_Bh_space_35
abbrev t_Bh_space_31 : List UInt8 := 180 :: 0 :: 26 :: t_Bh_space_34
abbrev t_Bh_space_30 : List UInt8 := 42 :: t_Bh_space_31
abbrev t_Bh_space_29 : List UInt8 := 172 :: t_Bh_space_30
abbrev t_Bh_space_28 : List UInt8 := 2 :: t_Bh_space_29
abbrev t_Bh_space_25 : List UInt8 := 167 :: 0 :: 4 :: t_Bh_space_28
abbrev t_Bh_space_24 : List UInt8 := 46 :: t_Bh_space_25
abbrev t_Bh_space_23 : List UInt8 := 27 :: t_Bh_space_24
abbrev t_Bh_space_20 : List UInt8 := 180 :: 1 :: 56 :: t_Bh_space_23
abbrev t_Bh_space_17 : List UInt8 := 180 :: 0 :: 26 :: t_Bh_space_20
abbrev t_Bh_space_16 : List UInt8 := 42 :: t_Bh_space_17
abbrev t_Bh_space_13 : List UInt8 := 153 :: 0 :: 15 :: t_Bh_space_16
abbrev t_Bh_space_10 : List UInt8 := 182 :: 1 :: 53 :: t_Bh_space_13
abbrev t_Bh_space_9 : List UInt8 := 27 :: t_Bh_space_10
abbrev t_Bh_space_6 : List UInt8 := 180 :: 0 :: 26 :: t_Bh_space_9
abbrev t_Bh_space_5 : List UInt8 := 42 :: t_Bh_space_6
abbrev t_Bh_space_2 : List UInt8 := 160 :: 0 :: 28 :: t_Bh_space_5
abbrev t_Bh_space_1 : List UInt8 := 7 :: t_Bh_space_2
abbrev t_Bh_space_0 : List UInt8 := 28 :: t_Bh_space_1
theorem a_Bh_space_0 : dk_at b_Bh_space 0 t_Bh_space_0 := dk_start (by decide +kernel)
theorem a_Bh_space_1 : dk_at b_Bh_space 1 t_Bh_space_1 := dk_go 1 a_Bh_space_0 rfl
theorem a_Bh_space_2 : dk_at b_Bh_space 2 t_Bh_space_2 := dk_go 1 a_Bh_space_1 rfl
theorem a_Bh_space_5 : dk_at b_Bh_space 5 t_Bh_space_5 := dk_go 3 a_Bh_space_2 rfl
theorem a_Bh_space_6 : dk_at b_Bh_space 6 t_Bh_space_6 := dk_go 1 a_Bh_space_5 rfl
theorem a_Bh_space_9 : dk_at b_Bh_space 9 t_Bh_space_9 := dk_go 3 a_Bh_space_6 rfl
theorem a_Bh_space_10 : dk_at b_Bh_space 10 t_Bh_space_10 := dk_go 1 a_Bh_space_9 rfl
theorem a_Bh_space_13 : dk_at b_Bh_space 13 t_Bh_space_13 := dk_go 3 a_Bh_space_10 rfl
theorem a_Bh_space_16 : dk_at b_Bh_space 16 t_Bh_space_16 := dk_go 3 a_Bh_space_13 rfl
theorem a_Bh_space_17 : dk_at b_Bh_space 17 t_Bh_space_17 := dk_go 1 a_Bh_space_16 rfl
theorem a_Bh_space_20 : dk_at b_Bh_space 20 t_Bh_space_20 := dk_go 3 a_Bh_space_17 rfl
theorem a_Bh_space_23 : dk_at b_Bh_space 23 t_Bh_space_23 := dk_go 3 a_Bh_space_20 rfl
theorem a_Bh_space_24 : dk_at b_Bh_space 24 t_Bh_space_24 := dk_go 1 a_Bh_space_23 rfl
theorem a_Bh_space_25 : dk_at b_Bh_space 25 t_Bh_space_25 := dk_go 1 a_Bh_space_24 rfl
theorem a_Bh_space_28 : dk_at b_Bh_space 28 t_Bh_space_28 := dk_go 3 a_Bh_space_25 rfl
theorem a_Bh_space_29 : dk_at b_Bh_space 29 t_Bh_space_29 := dk_go 1 a_Bh_space_28 rfl
theorem a_Bh_space_30 : dk_at b_Bh_space 30 t_Bh_space_30 := dk_go 1 a_Bh_space_29 rfl
theorem a_Bh_space_31 : dk_at b_Bh_space 31 t_Bh_space_31 := dk_go 1 a_Bh_space_30 rfl
theorem a_Bh_space_34 : dk_at b_Bh_space 34 t_Bh_space_34 := dk_go 3 a_Bh_space_31 rfl
theorem a_Bh_space_35 : dk_at b_Bh_space 35 t_Bh_space_35 := dk_go 1 a_Bh_space_34 rfl
theorem a_Bh_space_38 : dk_at b_Bh_space 38 t_Bh_space_38 := dk_go 3 a_Bh_space_35 rfl
theorem a_Bh_space_41 : dk_at b_Bh_space 41 t_Bh_space_41 := dk_go 3 a_Bh_space_38 rfl
theorem a_Bh_space_42 : dk_at b_Bh_space 42 t_Bh_space_42 := dk_go 1 a_Bh_space_41 rfl
theorem a_Bh_space_43 : dk_at b_Bh_space 43 t_Bh_space_43 := dk_go 1 a_Bh_space_42 rfl
theorem a_Bh_space_44 : dk_at b_Bh_space 44 t_Bh_space_44 := dk_go 1 a_Bh_space_43 rfl
theorem a_Bh_space_76 : dk_at b_Bh_space 76 t_Bh_space_76 := dk_go 32 a_Bh_space_44 rfl
theorem a_Bh_space_77 : dk_at b_Bh_space 77 t_Bh_space_77 := dk_go 1 a_Bh_space_76 rfl
theorem a_Bh_space_80 : dk_at b_Bh_space 80 t_Bh_space_80 := dk_go 3 a_Bh_space_77 rfl
theorem a_Bh_space_83 : dk_at b_Bh_space 83 t_Bh_space_83 := dk_go 3 a_Bh_space_80 rfl
theorem a_Bh_space_84 : dk_at b_Bh_space 84 t_Bh_space_84 := dk_go 1 a_Bh_space_83 rfl
theorem a_Bh_space_85 : dk_at b_Bh_space 85 t_Bh_space_85 := dk_go 1 a_Bh_space_84 rfl
theorem a_Bh_space_86 : dk_at b_Bh_space 86 t_Bh_space_86 := dk_go 1 a_Bh_space_85 rfl
theorem a_Bh_space_87 : dk_at b_Bh_space 87 t_Bh_space_87 := dk_go 1 a_Bh_space_86 rfl
theorem a_Bh_space_90 : dk_at b_Bh_space 90 t_Bh_space_90 := dk_go 3 a_Bh_space_87 rfl
theorem a_Bh_space_93 : dk_at b_Bh_space 93 t_Bh_space_93 := dk_go 3 a_Bh_space_90 rfl
theorem a_Bh_space_94 : dk_at b_Bh_space 94 t_Bh_space_94 := dk_go 1 a_Bh_space_93 rfl
theorem a_Bh_space_95 : dk_at b_Bh_space 95 t_Bh_space_95 := dk_go 1 a_Bh_space_94 rfl
theorem a_Bh_space_96 : dk_at b_Bh_space 96 t_Bh_space_96 := dk_go 1 a_Bh_space_95 rfl
theorem a_Bh_space_97 : dk_at b_Bh_space 97 t_Bh_space_97 := dk_go 1 a_Bh_space_96 rfl
theorem a_Bh_space_100 : dk_at b_Bh_space 100 t_Bh_space_100 := dk_go 3 a_Bh_space_97 rfl
theorem a_Bh_space_103 : dk_at b_Bh_space 103 t_Bh_space_103 := dk_go 3 a_Bh_space_100 rfl
theorem a_Bh_space_104 : dk_at b_Bh_space 104 t_Bh_space_104 := dk_go 1 a_Bh_space_103 rfl
theorem a_Bh_space_105 : dk_at b_Bh_space 105 t_Bh_space_105 := dk_go 1 a_Bh_space_104 rfl
theorem a_Bh_space_108 : dk_at b_Bh_space 108 t_Bh_space_108 := dk_go 3 a_Bh_space_105 rfl
theorem a_Bh_space_109 : dk_at b_Bh_space 109 t_Bh_space_109 := dk_go 1 a_Bh_space_108 rfl
theorem a_Bh_space_112 : dk_at b_Bh_space 112 t_Bh_space_112 := dk_go 3 a_Bh_space_109 rfl
theorem a_Bh_space_115 : dk_at b_Bh_space 115 t_Bh_space_115 := dk_go 3 a_Bh_space_112 rfl
theorem a_Bh_space_116 : dk_at b_Bh_space 116 t_Bh_space_116 := dk_go 1 a_Bh_space_115 rfl
theorem a_Bh_space_117 : dk_at b_Bh_space 117 t_Bh_space_117 := dk_go 1 a_Bh_space_116 rfl
theorem a_Bh_space_120 : dk_at b_Bh_space 120 t_Bh_space_120 := dk_go 3 a_Bh_space_117 rfl
theorem a_Bh_space_121 : dk_at b_Bh_space 121 t_Bh_space_121 := dk_go 1 a_Bh_space_120 rfl
theorem a_Bh_space_124 : dk_at b_Bh_space 124 t_Bh_space_124 := dk_go 3 a_Bh_space_121 rfl
theorem a_Bh_space_127 : dk_at b_Bh_space 127 t_Bh_space_127 := dk_go 3 a_Bh_space_124 rfl
theorem a_Bh_space_128 : dk_at b_Bh_space 128 t_Bh_space_128 := dk_go 1 a_Bh_space_127 rfl
theorem a_Bh_space_129 : dk_at b_Bh_space 129 t_Bh_space_129 := dk_go 1 a_Bh_space_128 rfl
theorem a_Bh_space_130 : dk_at b_Bh_space 130 t_Bh_space_130 := dk_go 1 a_Bh_space_129 rfl
theorem a_Bh_space_131 : dk_at b_Bh_space 131 t_Bh_space_131 := dk_go 1 a_Bh_space_130 rfl
theorem a_Bh_space_134 : dk_at b_Bh_space 134 t_Bh_space_134 := dk_go 3 a_Bh_space_131 rfl
theorem a_Bh_space_135 : dk_at b_Bh_space 135 t_Bh_space_135 := dk_go 1 a_Bh_space_134 rfl
theorem a_Bh_space_138 : dk_at b_Bh_space 138 t_Bh_space_138 := dk_go 3 a_Bh_space_135 rfl
theorem a_Bh_space_139 : dk_at b_Bh_space 139 t_Bh_space_139 := dk_go 1 a_Bh_space_138 rfl
theorem a_Bh_space_140 : dk_at b_Bh_space 140 t_Bh_space_140 := dk_go 1 a_Bh_space_139 rfl
theorem d_Bh_space_0 : decode b_Bh_space 0 = .ok (.iload_n 2, 1) := dk_0 a_Bh_space_0 (dko_28 _)
theorem d_Bh_space_1 : decode b_Bh_space 1 = .ok (.iconst 4, 1) := dk_0 a_Bh_space_1 (dko_7 _)
theorem d_Bh_space_2 : decode b_Bh_space 2 = .ok (.if_icmp .ne 28, 3) := dk_S2 a_Bh_space_2 (dko_160 _) (by decide +kernel)
theorem d_Bh_space_5 : decode b_Bh_space 5 = .ok (.aload_n 0, 1) := dk_0 a_Bh_space_5 (dko_42 _)
theorem d_Bh_space_6 : decode b_Bh_space 6 = .ok (.getfield 26, 3) := dk_U2 a_Bh_space_6 (dko_180 _) rfl
theorem d_Bh_space_9 : decode b_Bh_space 9 = .ok (.iload_n 1, 1) := dk_0 a_Bh_space_9 (dko_27 _)
theorem d_Bh_space_10 : decode b_Bh_space 10 = .ok (.invokevirtual 309, 3) := dk_U2 a_Bh_space_10 (dko_182 _) rfl
theorem d_Bh_space_13 : decode b_Bh_space 13 = .ok (.ifCond .eq 15, 3) := dk_S2 a_Bh_space_13 (dko_153 _) (by decide +kernel)
theorem d_Bh_space_16 : decode b_Bh_space 16 = .ok (.aload_n 0, 1) := dk_0 a_Bh_space_16 (dko_42 _)
theorem d_Bh_space_17 : decode b_Bh_space 17 = .ok (.getfield 26, 3) := dk_U2 a_Bh_space_17 (dko_180 _) rfl
theorem d_Bh_space_20 : decode b_Bh_space 20 = .ok (.getfield 312, 3) := dk_U2 a_Bh_space_20 (dko_180 _) rfl
theorem d_Bh_space_23 : decode b_Bh_space 23 = .ok (.iload_n 1, 1) := dk_0 a_Bh_space_23 (dko_27 _)
theorem d_Bh_space_24 : decode b_Bh_space 24 = .ok (.iaload, 1) := dk_0 a_Bh_space_24 (dko_46 _)
theorem d_Bh_space_25 : decode b_Bh_space 25 = .ok (.goto 4, 3) := dk_S2 a_Bh_space_25 (dko_167 _) (by decide +kernel)
theorem d_Bh_space_28 : decode b_Bh_space 28 = .ok (.iconst (-1), 1) := dk_0 a_Bh_space_28 (dko_2 _)
theorem d_Bh_space_29 : decode b_Bh_space 29 = .ok (.ireturn, 1) := dk_0 a_Bh_space_29 (dko_172 _)
theorem d_Bh_space_30 : decode b_Bh_space 30 = .ok (.aload_n 0, 1) := dk_0 a_Bh_space_30 (dko_42 _)
theorem d_Bh_space_31 : decode b_Bh_space 31 = .ok (.getfield 26, 3) := dk_U2 a_Bh_space_31 (dko_180 _) rfl
theorem d_Bh_space_34 : decode b_Bh_space 34 = .ok (.iload_n 1, 1) := dk_0 a_Bh_space_34 (dko_27 _)
theorem d_Bh_space_35 : decode b_Bh_space 35 = .ok (.invokevirtual 306, 3) := dk_U2 a_Bh_space_35 (dko_182 _) rfl
theorem d_Bh_space_38 : decode b_Bh_space 38 = .ok (.ifCond .ne 5, 3) := dk_S2 a_Bh_space_38 (dko_154 _) (by decide +kernel)
theorem d_Bh_space_41 : decode b_Bh_space 41 = .ok (.iconst (-1), 1) := dk_0 a_Bh_space_41 (dko_2 _)
theorem d_Bh_space_42 : decode b_Bh_space 42 = .ok (.ireturn, 1) := dk_0 a_Bh_space_42 (dko_172 _)
theorem d_Bh_space_43 : decode b_Bh_space 43 = .ok (.iload_n 2, 1) := dk_0 a_Bh_space_43 (dko_28 _)
theorem d_Bh_space_44 : decode b_Bh_space 44 = .ok (.tableswitch 95 0 3 #[32, 42, 52, 86], 32) := by decide +kernel
theorem d_Bh_space_76 : decode b_Bh_space 76 = .ok (.aload_n 0, 1) := dk_0 a_Bh_space_76 (dko_42 _)
theorem d_Bh_space_77 : decode b_Bh_space 77 = .ok (.getfield 26, 3) := dk_U2 a_Bh_space_77 (dko_180 _) rfl
theorem d_Bh_space_80 : decode b_Bh_space 80 = .ok (.getfield 215, 3) := dk_U2 a_Bh_space_80 (dko_180 _) rfl
theorem d_Bh_space_83 : decode b_Bh_space 83 = .ok (.iload_n 1, 1) := dk_0 a_Bh_space_83 (dko_27 _)
theorem d_Bh_space_84 : decode b_Bh_space 84 = .ok (.iaload, 1) := dk_0 a_Bh_space_84 (dko_46 _)
theorem d_Bh_space_85 : decode b_Bh_space 85 = .ok (.ireturn, 1) := dk_0 a_Bh_space_85 (dko_172 _)
theorem d_Bh_space_86 : decode b_Bh_space 86 = .ok (.aload_n 0, 1) := dk_0 a_Bh_space_86 (dko_42 _)
theorem d_Bh_space_87 : decode b_Bh_space 87 = .ok (.getfield 26, 3) := dk_U2 a_Bh_space_87 (dko_180 _) rfl
theorem d_Bh_space_90 : decode b_Bh_space 90 = .ok (.getfield 208, 3) := dk_U2 a_Bh_space_90 (dko_180 _) rfl
theorem d_Bh_space_93 : decode b_Bh_space 93 = .ok (.iload_n 1, 1) := dk_0 a_Bh_space_93 (dko_27 _)
theorem d_Bh_space_94 : decode b_Bh_space 94 = .ok (.iaload, 1) := dk_0 a_Bh_space_94 (dko_46 _)
theorem d_Bh_space_95 : decode b_Bh_space 95 = .ok (.ireturn, 1) := dk_0 a_Bh_space_95 (dko_172 _)
theorem d_Bh_space_96 : decode b_Bh_space 96 = .ok (.aload_n 0, 1) := dk_0 a_Bh_space_96 (dko_42 _)
theorem d_Bh_space_97 : decode b_Bh_space 97 = .ok (.getfield 26, 3) := dk_U2 a_Bh_space_97 (dko_180 _) rfl
theorem d_Bh_space_100 : decode b_Bh_space 100 = .ok (.getfield 215, 3) := dk_U2 a_Bh_space_100 (dko_180 _) rfl
theorem d_Bh_space_103 : decode b_Bh_space 103 = .ok (.iload_n 1, 1) := dk_0 a_Bh_space_103 (dko_27 _)
theorem d_Bh_space_104 : decode b_Bh_space 104 = .ok (.iaload, 1) := dk_0 a_Bh_space_104 (dko_46 _)
theorem d_Bh_space_105 : decode b_Bh_space 105 = .ok (.ifCond .le 15, 3) := dk_S2 a_Bh_space_105 (dko_158 _) (by decide +kernel)
theorem d_Bh_space_108 : decode b_Bh_space 108 = .ok (.aload_n 0, 1) := dk_0 a_Bh_space_108 (dko_42 _)
theorem d_Bh_space_109 : decode b_Bh_space 109 = .ok (.getfield 26, 3) := dk_U2 a_Bh_space_109 (dko_180 _) rfl
theorem d_Bh_space_112 : decode b_Bh_space 112 = .ok (.getfield 215, 3) := dk_U2 a_Bh_space_112 (dko_180 _) rfl
theorem d_Bh_space_115 : decode b_Bh_space 115 = .ok (.iload_n 1, 1) := dk_0 a_Bh_space_115 (dko_27 _)
theorem d_Bh_space_116 : decode b_Bh_space 116 = .ok (.iaload, 1) := dk_0 a_Bh_space_116 (dko_46 _)
theorem d_Bh_space_117 : decode b_Bh_space 117 = .ok (.goto 12, 3) := dk_S2 a_Bh_space_117 (dko_167 _) (by decide +kernel)
theorem d_Bh_space_120 : decode b_Bh_space 120 = .ok (.aload_n 0, 1) := dk_0 a_Bh_space_120 (dko_42 _)
theorem d_Bh_space_121 : decode b_Bh_space 121 = .ok (.getfield 26, 3) := dk_U2 a_Bh_space_121 (dko_180 _) rfl
theorem d_Bh_space_124 : decode b_Bh_space 124 = .ok (.getfield 353, 3) := dk_U2 a_Bh_space_124 (dko_180 _) rfl
theorem d_Bh_space_127 : decode b_Bh_space 127 = .ok (.iload_n 1, 1) := dk_0 a_Bh_space_127 (dko_27 _)
theorem d_Bh_space_128 : decode b_Bh_space 128 = .ok (.iaload, 1) := dk_0 a_Bh_space_128 (dko_46 _)
theorem d_Bh_space_129 : decode b_Bh_space 129 = .ok (.ireturn, 1) := dk_0 a_Bh_space_129 (dko_172 _)
theorem d_Bh_space_130 : decode b_Bh_space 130 = .ok (.aload_n 0, 1) := dk_0 a_Bh_space_130 (dko_42 _)
theorem d_Bh_space_131 : decode b_Bh_space 131 = .ok (.getfield 26, 3) := dk_U2 a_Bh_space_131 (dko_180 _) rfl
theorem d_Bh_space_134 : decode b_Bh_space 134 = .ok (.iload_n 1, 1) := dk_0 a_Bh_space_134 (dko_27 _)
theorem d_Bh_space_135 : decode b_Bh_space 135 = .ok (.invokevirtual 356, 3) := dk_U2 a_Bh_space_135 (dko_182 _) rfl
theorem d_Bh_space_138 : decode b_Bh_space 138 = .ok (.ireturn, 1) := dk_0 a_Bh_space_138 (dko_172 _)
theorem d_Bh_space_139 : decode b_Bh_space 139 = .ok (.iconst (-1), 1) := dk_0 a_Bh_space_139 (dko_2 _)
theorem d_Bh_space_140 : decode b_Bh_space 140 = .ok (.ireturn, 1) := dk_0 a_Bh_space_140 (dko_172 _)
set_option maxHeartbeats 4000000 in
set_option maxRecDepth 100000 in
theorem ok_Bh_space (pc : Nat) : OpS mt mi_Bh_space pc (cs_Bh_space pc) := (os_n (os_n (os_n (os_n (os_n (os_l (so_iload_n d_Bh_space_0 rfl)) (os_n (os_l (so_iconst d_Bh_space_1 (by decide))) (os_l (so_icne d_Bh_space_2 (by decide))))) (os_n (os_n (os_l (so_aload_n d_Bh_space_5 rfl)) (os_l (so_get (C := R_Bh) (T := F_Bh) (N := 16) (j := 2) in_Bh rfl (by decide) mw_686 d_Bh_space_6))) (os_n (os_l (so_iload_n d_Bh_space_9 rfl)) (os_l (so_callV (iv := mi_St_isValve) rfl rfl rfl mw_1333 mw_1196 mw_1197 mw_4 mw_1198 ⟨by decide +kernel, by decide +kernel, by decide +kernel⟩ (by decide) d_Bh_space_10))))) (os_n (os_n (os_n (os_l (so_ifeq d_Bh_space_13 (by decide))) (os_l (so_aload_n d_Bh_space_16 rfl))) (os_n (os_l (so_get (C := R_Bh) (T := F_Bh) (N := 16) (j := 2) in_Bh rfl (by decide) mw_686 d_Bh_space_17)) (os_l (so_get (C := R_St) (T := F_St) (N := 12) (j := 2) in_St rfl (by decide) mw_161 d_Bh_space_20)))) (os_n (os_n (os_l (so_iload_n d_Bh_space_23 rfl)) (os_l (so_iaload d_Bh_space_24))) (os_n (os_l (so_goto d_Bh_space_25 (by decide))) (os_l (so_iconst d_Bh_space_28 (by decide))))))) (os_n (os_n (os_n (os_n (os_l (so_ireturn rfl d_Bh_space_29)) (os_l (so_aload_n d_Bh_space_30 rfl))) (os_n (os_l (so_get (C := R_Bh) (T := F_Bh) (N := 16) (j := 2) in_Bh rfl (by decide) mw_686 d_Bh_space_31)) (os_l (so_iload_n d_Bh_space_34 rfl)))) (os_n (os_n (os_l (so_callV (iv := mi_St_isHolder) rfl rfl rfl mw_1332 mw_1200 mw_1201 mw_4 mw_1202 ⟨by decide +kernel, by decide +kernel, by decide +kernel⟩ (by decide) d_Bh_space_35)) (os_l (so_ifne d_Bh_space_38 (by decide)))) (os_n (os_l (so_iconst d_Bh_space_41 (by decide))) (os_l (so_ireturn rfl d_Bh_space_42))))) (os_n (os_n (os_n (os_l (so_iload_n d_Bh_space_43 rfl)) (os_l (so_tab d_Bh_space_44 (by decide) (by decide) (by decide)))) (os_n (os_l (so_aload_n d_Bh_space_76 rfl)) (os_l (so_get (C := R_Bh) (T := F_Bh) (N := 16) (j := 2) in_Bh rfl (by decide) mw_686 d_Bh_space_77)))) (os_n (os_n (os_l (so_get (C := R_St) (T := F_St) (N := 12) (j := 3) in_St rfl (by decide) mw_165 d_Bh_space_80)) (os_l (so_iload_n d_Bh_space_83 rfl))) (os_n (os_l (so_iaload d_Bh_space_84)) (os_l (so_ireturn rfl d_Bh_space_85))))))) (os_n (os_n (os_n (os_n (os_l (so_aload_n d_Bh_space_86 rfl)) (os_n (os_l (so_get (C := R_Bh) (T := F_Bh) (N := 16) (j := 2) in_Bh rfl (by decide) mw_686 d_Bh_space_87)) (os_l (so_get (C := R_St) (T := F_St) (N := 12) (j := 4) in_St rfl (by decide) mw_168 d_Bh_space_90)))) (os_n (os_n (os_l (so_iload_n d_Bh_space_93 rfl)) (os_l (so_iaload d_Bh_space_94))) (os_n (os_l (so_ireturn rfl d_Bh_space_95)) (os_l (so_aload_n d_Bh_space_96 rfl))))) (os_n (os_n (os_n (os_l (so_get (C := R_Bh) (T := F_Bh) (N := 16) (j := 2) in_Bh rfl (by decide) mw_686 d_Bh_space_97)) (os_l (so_get (C := R_St) (T := F_St) (N := 12) (j := 3) in_St rfl (by decide) mw_165 d_Bh_space_100))) (os_n (os_l (so_iload_n d_Bh_space_103 rfl)) (os_l (so_iaload d_Bh_space_104)))) (os_n (os_n (os_l (so_ifle d_Bh_space_105 (by decide))) (os_l (so_aload_n d_Bh_space_108 rfl))) (os_n (os_l (so_get (C := R_Bh) (T := F_Bh) (N := 16) (j := 2) in_Bh rfl (by decide) mw_686 d_Bh_space_109)) (os_l (so_get (C := R_St) (T := F_St) (N := 12) (j := 3) in_St rfl (by decide) mw_165 d_Bh_space_112)))))) (os_n (os_n (os_n (os_n (os_l (so_iload_n d_Bh_space_115 rfl)) (os_l (so_iaload d_Bh_space_116))) (os_n (os_l (so_goto d_Bh_space_117 (by decide))) (os_l (so_aload_n d_Bh_space_120 rfl)))) (os_n (os_n (os_l (so_get (C := R_Bh) (T := F_Bh) (N := 16) (j := 2) in_Bh rfl (by decide) mw_686 d_Bh_space_121)) (os_l (so_get (C := R_St) (T := F_St) (N := 12) (j := 5) in_St rfl (by decide) mw_172 d_Bh_space_124))) (os_n (os_l (so_iload_n d_Bh_space_127 rfl)) (os_l (so_iaload d_Bh_space_128))))) (os_n (os_n (os_n (os_l (so_ireturn rfl d_Bh_space_129)) (os_l (so_aload_n d_Bh_space_130 rfl))) (os_n (os_l (so_get (C := R_Bh) (T := F_Bh) (N := 16) (j := 2) in_Bh rfl (by decide) mw_686 d_Bh_space_131)) (os_l (so_iload_n d_Bh_space_134 rfl)))) (os_n (os_n (os_l (so_callV (iv := mi_St_levelOf) rfl rfl rfl mw_1551 mw_1552 mw_1553 mw_4 mw_1554 ⟨by decide +kernel, by decide +kernel, by decide +kernel⟩ (by decide) d_Bh_space_135)) (os_l (so_ireturn rfl d_Bh_space_138))) (os_n (os_l (so_iconst d_Bh_space_139 (by decide))) (os_l (so_ireturn rfl d_Bh_space_140))))))))
abbrev t_Bh_danger_77 : List UInt8 := 172 :: []
abbrev t_Bh_danger_76 : List UInt8 := 2 :: t_Bh_danger_77
abbrev t_Bh_danger_75 : List UInt8 := 172 :: t_Bh_danger_76
abbrev t_Bh_danger_72 : List UInt8 := 180 :: 1 :: 112 :: t_Bh_danger_75
abbrev t_Bh_danger_69 : List UInt8 := 180 :: 0 :: 44 :: t_Bh_danger_72
abbrev t_Bh_danger_68 : List UInt8 := 42 :: t_Bh_danger_69
abbrev t_Bh_danger_67 : List UInt8 := 172 :: t_Bh_danger_68
abbrev t_Bh_danger_64 : List UInt8 := 180 :: 1 :: 109 :: t_Bh_danger_67
abbrev t_Bh_danger_61 : List UInt8 := 180 :: 0 :: 44 :: t_Bh_danger_64
abbrev t_Bh_danger_60 : List UInt8 := 42 :: t_Bh_danger_61
abbrev t_Bh_danger_59 : List UInt8 := 172 :: t_Bh_danger_60
abbrev t_Bh_danger_56 : List UInt8 := 180 :: 1 :: 106 :: t_Bh_danger_59
abbrev t_Bh_danger_53 : List UInt8 := 180 :: 0 :: 44 :: t_Bh_danger_56
abbrev t_Bh_danger_52 : List UInt8 := 42 :: t_Bh_danger_53
abbrev t_Bh_danger_27 : List UInt8 := 170 :: 0 :: 0 :: 0 :: 49 :: 0 :: 0 :: 0 :: 1 :: 0 :: 0 :: 0 :: 3 :: 0 :: 0 :: 0 :: 25 :: 0 :: 0 :: 0 :: 33 :: 0 :: 0 :: 0 :: 41 :: t_Bh_danger_52
abbrev t_Bh_danger_26 : List UInt8 := 27 :: t_Bh_danger_27
abbrev t_Bh_danger_25 : List UInt8 := 172 :: t_Bh_danger_26
abbrev t_Bh_danger_24 : List UInt8 := 2 :: t_Bh_danger_25
abbrev t_Bh_danger_21 : List UInt8 := 153 :: 0 :: 5 :: t_Bh_danger_24
abbrev t_Bh_danger_20 : List UInt8 := 28 :: t_Bh_danger_21
abbrev t_Bh_danger_19 : List UInt8 := 172 :: t_Bh_danger_20
abbrev t_Bh_danger_16 : List UInt8 := 180 :: 1 :: 103 :: t_Bh_danger_19
abbrev t_Bh_danger_13 : List UInt8 := 180 :: 0 :: 44 :: t_Bh_danger_16
abbrev t_Bh_danger_12 : List UInt8 := 42 :: t_Bh_danger_13
abbrev t_Bh_danger_9 : List UInt8 := 154 :: 0 :: 11 :: t_Bh_danger_12
abbrev t_Bh_danger_8 : List UInt8 := 27 :: t_Bh_danger_9
abbrev t_Bh_danger_7 : List UInt8 := 61 :: t_Bh_danger_8
abbrev t_Bh_danger_4 : List UInt8 := 182 :: 0 :: 218 :: t_Bh_danger_7
abbrev t_Bh_danger_1 : List UInt8 := 180 :: 0 :: 44 :: t_Bh_danger_4
abbrev t_Bh_danger_0 : List UInt8 := 42 :: t_Bh_danger_1
theorem a_Bh_danger_0 : dk_at b_Bh_danger 0 t_Bh_danger_0 := dk_start (by decide +kernel)
theorem a_Bh_danger_1 : dk_at b_Bh_danger 1 t_Bh_danger_1 := dk_go 1 a_Bh_danger_0 rfl
theorem a_Bh_danger_4 : dk_at b_Bh_danger 4 t_Bh_danger_4 := dk_go 3 a_Bh_danger_1 rfl
theorem a_Bh_danger_7 : dk_at b_Bh_danger 7 t_Bh_danger_7 := dk_go 3 a_Bh_danger_4 rfl
theorem a_Bh_danger_8 : dk_at b_Bh_danger 8 t_Bh_danger_8 := dk_go 1 a_Bh_danger_7 rfl
theorem a_Bh_danger_9 : dk_at b_Bh_danger 9 t_Bh_danger_9 := dk_go 1 a_Bh_danger_8 rfl
theorem a_Bh_danger_12 : dk_at b_Bh_danger 12 t_Bh_danger_12 := dk_go 3 a_Bh_danger_9 rfl
theorem a_Bh_danger_13 : dk_at b_Bh_danger 13 t_Bh_danger_13 := dk_go 1 a_Bh_danger_12 rfl
theorem a_Bh_danger_16 : dk_at b_Bh_danger 16 t_Bh_danger_16 := dk_go 3 a_Bh_danger_13 rfl
theorem a_Bh_danger_19 : dk_at b_Bh_danger 19 t_Bh_danger_19 := dk_go 3 a_Bh_danger_16 rfl
theorem a_Bh_danger_20 : dk_at b_Bh_danger 20 t_Bh_danger_20 := dk_go 1 a_Bh_danger_19 rfl
theorem a_Bh_danger_21 : dk_at b_Bh_danger 21 t_Bh_danger_21 := dk_go 1 a_Bh_danger_20 rfl
theorem a_Bh_danger_24 : dk_at b_Bh_danger 24 t_Bh_danger_24 := dk_go 3 a_Bh_danger_21 rfl
theorem a_Bh_danger_25 : dk_at b_Bh_danger 25 t_Bh_danger_25 := dk_go 1 a_Bh_danger_24 rfl
theorem a_Bh_danger_26 : dk_at b_Bh_danger 26 t_Bh_danger_26 := dk_go 1 a_Bh_danger_25 rfl
theorem a_Bh_danger_27 : dk_at b_Bh_danger 27 t_Bh_danger_27 := dk_go 1 a_Bh_danger_26 rfl
theorem a_Bh_danger_52 : dk_at b_Bh_danger 52 t_Bh_danger_52 := dk_go 25 a_Bh_danger_27 rfl
theorem a_Bh_danger_53 : dk_at b_Bh_danger 53 t_Bh_danger_53 := dk_go 1 a_Bh_danger_52 rfl
theorem a_Bh_danger_56 : dk_at b_Bh_danger 56 t_Bh_danger_56 := dk_go 3 a_Bh_danger_53 rfl
theorem a_Bh_danger_59 : dk_at b_Bh_danger 59 t_Bh_danger_59 := dk_go 3 a_Bh_danger_56 rfl
theorem a_Bh_danger_60 : dk_at b_Bh_danger 60 t_Bh_danger_60 := dk_go 1 a_Bh_danger_59 rfl
theorem a_Bh_danger_61 : dk_at b_Bh_danger 61 t_Bh_danger_61 := dk_go 1 a_Bh_danger_60 rfl
theorem a_Bh_danger_64 : dk_at b_Bh_danger 64 t_Bh_danger_64 := dk_go 3 a_Bh_danger_61 rfl
theorem a_Bh_danger_67 : dk_at b_Bh_danger 67 t_Bh_danger_67 := dk_go 3 a_Bh_danger_64 rfl
theorem a_Bh_danger_68 : dk_at b_Bh_danger 68 t_Bh_danger_68 := dk_go 1 a_Bh_danger_67 rfl
theorem a_Bh_danger_69 : dk_at b_Bh_danger 69 t_Bh_danger_69 := dk_go 1 a_Bh_danger_68 rfl
theorem a_Bh_danger_72 : dk_at b_Bh_danger 72 t_Bh_danger_72 := dk_go 3 a_Bh_danger_69 rfl
theorem a_Bh_danger_75 : dk_at b_Bh_danger 75 t_Bh_danger_75 := dk_go 3 a_Bh_danger_72 rfl
theorem a_Bh_danger_76 : dk_at b_Bh_danger 76 t_Bh_danger_76 := dk_go 1 a_Bh_danger_75 rfl
theorem a_Bh_danger_77 : dk_at b_Bh_danger 77 t_Bh_danger_77 := dk_go 1 a_Bh_danger_76 rfl
theorem d_Bh_danger_0 : decode b_Bh_danger 0 = .ok (.aload_n 0, 1) := dk_0 a_Bh_danger_0 (dko_42 _)
theorem d_Bh_danger_1 : decode b_Bh_danger 1 = .ok (.getfield 44, 3) := dk_U2 a_Bh_danger_1 (dko_180 _) rfl
theorem d_Bh_danger_4 : decode b_Bh_danger 4 = .ok (.invokevirtual 218, 3) := dk_U2 a_Bh_danger_4 (dko_182 _) rfl
theorem d_Bh_danger_7 : decode b_Bh_danger 7 = .ok (.istore_n 2, 1) := dk_0 a_Bh_danger_7 (dko_61 _)
theorem d_Bh_danger_8 : decode b_Bh_danger 8 = .ok (.iload_n 1, 1) := dk_0 a_Bh_danger_8 (dko_27 _)
theorem d_Bh_danger_9 : decode b_Bh_danger 9 = .ok (.ifCond .ne 11, 3) := dk_S2 a_Bh_danger_9 (dko_154 _) (by decide +kernel)
theorem d_Bh_danger_12 : decode b_Bh_danger 12 = .ok (.aload_n 0, 1) := dk_0 a_Bh_danger_12 (dko_42 _)
theorem d_Bh_danger_13 : decode b_Bh_danger 13 = .ok (.getfield 44, 3) := dk_U2 a_Bh_danger_13 (dko_180 _) rfl
theorem d_Bh_danger_16 : decode b_Bh_danger 16 = .ok (.getfield 359, 3) := dk_U2 a_Bh_danger_16 (dko_180 _) rfl
theorem d_Bh_danger_19 : decode b_Bh_danger 19 = .ok (.ireturn, 1) := dk_0 a_Bh_danger_19 (dko_172 _)
theorem d_Bh_danger_20 : decode b_Bh_danger 20 = .ok (.iload_n 2, 1) := dk_0 a_Bh_danger_20 (dko_28 _)
theorem d_Bh_danger_21 : decode b_Bh_danger 21 = .ok (.ifCond .eq 5, 3) := dk_S2 a_Bh_danger_21 (dko_153 _) (by decide +kernel)
theorem d_Bh_danger_24 : decode b_Bh_danger 24 = .ok (.iconst (-1), 1) := dk_0 a_Bh_danger_24 (dko_2 _)
theorem d_Bh_danger_25 : decode b_Bh_danger 25 = .ok (.ireturn, 1) := dk_0 a_Bh_danger_25 (dko_172 _)
theorem d_Bh_danger_26 : decode b_Bh_danger 26 = .ok (.iload_n 1, 1) := dk_0 a_Bh_danger_26 (dko_27 _)
theorem d_Bh_danger_27 : decode b_Bh_danger 27 = .ok (.tableswitch 49 1 3 #[25, 33, 41], 25) := by decide +kernel
theorem d_Bh_danger_52 : decode b_Bh_danger 52 = .ok (.aload_n 0, 1) := dk_0 a_Bh_danger_52 (dko_42 _)
theorem d_Bh_danger_53 : decode b_Bh_danger 53 = .ok (.getfield 44, 3) := dk_U2 a_Bh_danger_53 (dko_180 _) rfl
theorem d_Bh_danger_56 : decode b_Bh_danger 56 = .ok (.getfield 362, 3) := dk_U2 a_Bh_danger_56 (dko_180 _) rfl
theorem d_Bh_danger_59 : decode b_Bh_danger 59 = .ok (.ireturn, 1) := dk_0 a_Bh_danger_59 (dko_172 _)
theorem d_Bh_danger_60 : decode b_Bh_danger 60 = .ok (.aload_n 0, 1) := dk_0 a_Bh_danger_60 (dko_42 _)
theorem d_Bh_danger_61 : decode b_Bh_danger 61 = .ok (.getfield 44, 3) := dk_U2 a_Bh_danger_61 (dko_180 _) rfl
theorem d_Bh_danger_64 : decode b_Bh_danger 64 = .ok (.getfield 365, 3) := dk_U2 a_Bh_danger_64 (dko_180 _) rfl
theorem d_Bh_danger_67 : decode b_Bh_danger 67 = .ok (.ireturn, 1) := dk_0 a_Bh_danger_67 (dko_172 _)
theorem d_Bh_danger_68 : decode b_Bh_danger 68 = .ok (.aload_n 0, 1) := dk_0 a_Bh_danger_68 (dko_42 _)
theorem d_Bh_danger_69 : decode b_Bh_danger 69 = .ok (.getfield 44, 3) := dk_U2 a_Bh_danger_69 (dko_180 _) rfl
theorem d_Bh_danger_72 : decode b_Bh_danger 72 = .ok (.getfield 368, 3) := dk_U2 a_Bh_danger_72 (dko_180 _) rfl
theorem d_Bh_danger_75 : decode b_Bh_danger 75 = .ok (.ireturn, 1) := dk_0 a_Bh_danger_75 (dko_172 _)
theorem d_Bh_danger_76 : decode b_Bh_danger 76 = .ok (.iconst (-1), 1) := dk_0 a_Bh_danger_76 (dko_2 _)
theorem d_Bh_danger_77 : decode b_Bh_danger 77 = .ok (.ireturn, 1) := dk_0 a_Bh_danger_77 (dko_172 _)
set_option maxHeartbeats 4000000 in
set_option maxRecDepth 100000 in
theorem ok_Bh_danger (pc : Nat) : OpS mt mi_Bh_danger pc (cs_Bh_danger pc) := (os_n (os_n (os_n (os_n (os_l (so_aload_n d_Bh_danger_0 rfl)) (os_n (os_l (so_get (C := R_Bh) (T := F_Bh) (N := 16) (j := 4) in_Bh rfl (by decide) mw_688 d_Bh_danger_1)) (os_l (so_callV (iv := mi_Sf_isSafe) rfl rfl rfl mw_1092 mw_1093 mw_1094 mw_8 mw_1095 ⟨by decide +kernel, by decide +kernel, by decide +kernel⟩ (by decide) d_Bh_danger_4)))) (os_n (os_n (os_l (so_istore_n d_Bh_danger_7 rfl (by decide))) (os_l (so_iload_n d_Bh_danger_8 rfl))) (os_n (os_l (so_ifne d_Bh_danger_9 (by decide))) (os_l (so_aload_n d_Bh_danger_12 rfl))))) (os_n (os_n (os_n (os_l (so_get (C := R_Bh) (T := F_Bh) (N := 16) (j := 4) in_Bh rfl (by decide) mw_688 d_Bh_danger_13)) (os_l (so_get (C := R_Sf) (T := F_Sf) (N := 10) (j := 6) in_Sf rfl (by decide) mw_289 d_Bh_danger_16))) (os_n (os_l (so_ireturn rfl d_Bh_danger_19)) (os_l (so_iload_n d_Bh_danger_20 rfl)))) (os_n (os_n (os_l (so_ifeq d_Bh_danger_21 (by decide))) (os_l (so_iconst d_Bh_danger_24 (by decide)))) (os_n (os_l (so_ireturn rfl d_Bh_danger_25)) (os_l (so_iload_n d_Bh_danger_26 rfl)))))) (os_n (os_n (os_n (os_l (so_tab d_Bh_danger_27 (by decide) (by decide) (by decide))) (os_n (os_l (so_aload_n d_Bh_danger_52 rfl)) (os_l (so_get (C := R_Bh) (T := F_Bh) (N := 16) (j := 4) in_Bh rfl (by decide) mw_688 d_Bh_danger_53)))) (os_n (os_n (os_l (so_get (C := R_Sf) (T := F_Sf) (N := 10) (j := 7) in_Sf rfl (by decide) mw_291 d_Bh_danger_56)) (os_l (so_ireturn rfl d_Bh_danger_59))) (os_n (os_l (so_aload_n d_Bh_danger_60 rfl)) (os_l (so_get (C := R_Bh) (T := F_Bh) (N := 16) (j := 4) in_Bh rfl (by decide) mw_688 d_Bh_danger_61))))) (os_n (os_n (os_n (os_l (so_get (C := R_Sf) (T := F_Sf) (N := 10) (j := 8) in_Sf rfl (by decide) mw_293 d_Bh_danger_64)) (os_l (so_ireturn rfl d_Bh_danger_67))) (os_n (os_l (so_aload_n d_Bh_danger_68 rfl)) (os_l (so_get (C := R_Bh) (T := F_Bh) (N := 16) (j := 4) in_Bh rfl (by decide) mw_688 d_Bh_danger_69)))) (os_n (os_n (os_l (so_get (C := R_Sf) (T := F_Sf) (N := 10) (j := 9) in_Sf rfl (by decide) mw_295 d_Bh_danger_72)) (os_l (so_ireturn rfl d_Bh_danger_75))) (os_n (os_l (so_iconst d_Bh_danger_76 (by decide))) (os_l (so_ireturn rfl d_Bh_danger_77)))))))
abbrev t_Bh_write_22 : List UInt8 := 172 :: []
abbrev t_Bh_write_21 : List UInt8 := 2 :: t_Bh_write_22
abbrev t_Bh_write_18 : List UInt8 := 167 :: 0 :: 4 :: t_Bh_write_21
abbrev t_Bh_write_17 : List UInt8 := 51 :: t_Bh_write_18
abbrev t_Bh_write_16 : List UInt8 := 27 :: t_Bh_write_17
abbrev t_Bh_write_13 : List UInt8 := 180 :: 0 :: 94 :: t_Bh_write_16
abbrev t_Bh_write_12 : List UInt8 := 42 :: t_Bh_write_13
abbrev t_Bh_write_9 : List UInt8 := 162 :: 0 :: 12 :: t_Bh_write_12
abbrev t_Bh_write_6 : List UInt8 := 180 :: 0 :: 168 :: t_Bh_write_9
abbrev t_Bh_write_5 : List UInt8 := 42 :: t_Bh_write_6
abbrev t_Bh_write_4 : List UInt8 := 27 :: t_Bh_write_5
abbrev t_Bh_write_1 : List UInt8 := 155 :: 0 :: 20 :: t_Bh_write_4
abbrev t_Bh_write_0 : List UInt8 := 27 :: t_Bh_write_1
theorem a_Bh_write_0 : dk_at b_Bh_write 0 t_Bh_write_0 := dk_start (by decide +kernel)
theorem a_Bh_write_1 : dk_at b_Bh_write 1 t_Bh_write_1 := dk_go 1 a_Bh_write_0 rfl
theorem a_Bh_write_4 : dk_at b_Bh_write 4 t_Bh_write_4 := dk_go 3 a_Bh_write_1 rfl
theorem a_Bh_write_5 : dk_at b_Bh_write 5 t_Bh_write_5 := dk_go 1 a_Bh_write_4 rfl
theorem a_Bh_write_6 : dk_at b_Bh_write 6 t_Bh_write_6 := dk_go 1 a_Bh_write_5 rfl
theorem a_Bh_write_9 : dk_at b_Bh_write 9 t_Bh_write_9 := dk_go 3 a_Bh_write_6 rfl
theorem a_Bh_write_12 : dk_at b_Bh_write 12 t_Bh_write_12 := dk_go 3 a_Bh_write_9 rfl
theorem a_Bh_write_13 : dk_at b_Bh_write 13 t_Bh_write_13 := dk_go 1 a_Bh_write_12 rfl
theorem a_Bh_write_16 : dk_at b_Bh_write 16 t_Bh_write_16 := dk_go 3 a_Bh_write_13 rfl
theorem a_Bh_write_17 : dk_at b_Bh_write 17 t_Bh_write_17 := dk_go 1 a_Bh_write_16 rfl
theorem a_Bh_write_18 : dk_at b_Bh_write 18 t_Bh_write_18 := dk_go 1 a_Bh_write_17 rfl
theorem a_Bh_write_21 : dk_at b_Bh_write 21 t_Bh_write_21 := dk_go 3 a_Bh_write_18 rfl
theorem a_Bh_write_22 : dk_at b_Bh_write 22 t_Bh_write_22 := dk_go 1 a_Bh_write_21 rfl
theorem d_Bh_write_0 : decode b_Bh_write 0 = .ok (.iload_n 1, 1) := dk_0 a_Bh_write_0 (dko_27 _)
theorem d_Bh_write_1 : decode b_Bh_write 1 = .ok (.ifCond .lt 20, 3) := dk_S2 a_Bh_write_1 (dko_155 _) (by decide +kernel)
theorem d_Bh_write_4 : decode b_Bh_write 4 = .ok (.iload_n 1, 1) := dk_0 a_Bh_write_4 (dko_27 _)
theorem d_Bh_write_5 : decode b_Bh_write 5 = .ok (.aload_n 0, 1) := dk_0 a_Bh_write_5 (dko_42 _)
theorem d_Bh_write_6 : decode b_Bh_write 6 = .ok (.getfield 168, 3) := dk_U2 a_Bh_write_6 (dko_180 _) rfl
theorem d_Bh_write_9 : decode b_Bh_write 9 = .ok (.if_icmp .ge 12, 3) := dk_S2 a_Bh_write_9 (dko_162 _) (by decide +kernel)
theorem d_Bh_write_12 : decode b_Bh_write 12 = .ok (.aload_n 0, 1) := dk_0 a_Bh_write_12 (dko_42 _)
theorem d_Bh_write_13 : decode b_Bh_write 13 = .ok (.getfield 94, 3) := dk_U2 a_Bh_write_13 (dko_180 _) rfl
theorem d_Bh_write_16 : decode b_Bh_write 16 = .ok (.iload_n 1, 1) := dk_0 a_Bh_write_16 (dko_27 _)
theorem d_Bh_write_17 : decode b_Bh_write 17 = .ok (.baload, 1) := dk_0 a_Bh_write_17 (dko_51 _)
theorem d_Bh_write_18 : decode b_Bh_write 18 = .ok (.goto 4, 3) := dk_S2 a_Bh_write_18 (dko_167 _) (by decide +kernel)
theorem d_Bh_write_21 : decode b_Bh_write 21 = .ok (.iconst (-1), 1) := dk_0 a_Bh_write_21 (dko_2 _)
theorem d_Bh_write_22 : decode b_Bh_write 22 = .ok (.ireturn, 1) := dk_0 a_Bh_write_22 (dko_172 _)
set_option maxHeartbeats 4000000 in
set_option maxRecDepth 100000 in
theorem ok_Bh_write (pc : Nat) : OpS mt mi_Bh_write pc (cs_Bh_write pc) := (os_n (os_n (os_n (os_l (so_iload_n d_Bh_write_0 rfl)) (os_n (os_l (so_iflt d_Bh_write_1 (by decide))) (os_l (so_iload_n d_Bh_write_4 rfl)))) (os_n (os_l (so_aload_n d_Bh_write_5 rfl)) (os_n (os_l (so_get (C := R_Bh) (T := F_Bh) (N := 16) (j := 12) in_Bh rfl (by decide) mw_696 d_Bh_write_6)) (os_l (so_icge d_Bh_write_9 (by decide)))))) (os_n (os_n (os_l (so_aload_n d_Bh_write_12 rfl)) (os_n (os_l (so_get (C := R_Bh) (T := F_Bh) (N := 16) (j := 11) in_Bh rfl (by decide) mw_695 d_Bh_write_13)) (os_l (so_iload_n d_Bh_write_16 rfl)))) (os_n (os_n (os_l (so_baload d_Bh_write_17)) (os_l (so_goto d_Bh_write_18 (by decide)))) (os_n (os_l (so_iconst d_Bh_write_21 (by decide))) (os_l (so_ireturn rfl d_Bh_write_22))))))
abbrev t_Bh_second_7 : List UInt8 := 172 :: []
abbrev t_Bh_second_4 : List UInt8 := 180 :: 1 :: 5 :: t_Bh_second_7
abbrev t_Bh_second_1 : List UInt8 := 180 :: 0 :: 26 :: t_Bh_second_4
abbrev t_Bh_second_0 : List UInt8 := 42 :: t_Bh_second_1
theorem a_Bh_second_0 : dk_at b_Bh_second 0 t_Bh_second_0 := dk_start (by decide +kernel)
theorem a_Bh_second_1 : dk_at b_Bh_second 1 t_Bh_second_1 := dk_go 1 a_Bh_second_0 rfl
theorem a_Bh_second_4 : dk_at b_Bh_second 4 t_Bh_second_4 := dk_go 3 a_Bh_second_1 rfl
theorem a_Bh_second_7 : dk_at b_Bh_second 7 t_Bh_second_7 := dk_go 3 a_Bh_second_4 rfl
theorem d_Bh_second_0 : decode b_Bh_second 0 = .ok (.aload_n 0, 1) := dk_0 a_Bh_second_0 (dko_42 _)
theorem d_Bh_second_1 : decode b_Bh_second 1 = .ok (.getfield 26, 3) := dk_U2 a_Bh_second_1 (dko_180 _) rfl
theorem d_Bh_second_4 : decode b_Bh_second 4 = .ok (.getfield 261, 3) := dk_U2 a_Bh_second_4 (dko_180 _) rfl
theorem d_Bh_second_7 : decode b_Bh_second 7 = .ok (.ireturn, 1) := dk_0 a_Bh_second_7 (dko_172 _)
set_option maxHeartbeats 4000000 in
set_option maxRecDepth 100000 in
theorem ok_Bh_second (pc : Nat) : OpS mt mi_Bh_second pc (cs_Bh_second pc) := (os_n (os_n (os_l (so_aload_n d_Bh_second_0 rfl)) (os_l (so_get (C := R_Bh) (T := F_Bh) (N := 16) (j := 2) in_Bh rfl (by decide) mw_686 d_Bh_second_1))) (os_n (os_l (so_get (C := R_St) (T := F_St) (N := 12) (j := 1) in_St rfl (by decide) mw_156 d_Bh_second_4)) (os_l (so_ireturn rfl d_Bh_second_7))))
abbrev t_Mo_feed_117 : List UInt8 := 172 :: []
abbrev t_Mo_feed_114 : List UInt8 := 180 :: 0 :: 212 :: t_Mo_feed_117
abbrev t_Mo_feed_113 : List UInt8 := 42 :: t_Mo_feed_114
abbrev t_Mo_feed_110 : List UInt8 := 167 :: 255 :: 165 :: t_Mo_feed_113
abbrev t_Mo_feed_107 : List UInt8 := 132 :: 6 :: 1 :: t_Mo_feed_110
abbrev t_Mo_feed_104 : List UInt8 := 181 :: 0 :: 212 :: t_Mo_feed_107
abbrev t_Mo_feed_103 : List UInt8 := 96 :: t_Mo_feed_104
abbrev t_Mo_feed_102 : List UInt8 := 4 :: t_Mo_feed_103
abbrev t_Mo_feed_99 : List UInt8 := 180 :: 0 :: 212 :: t_Mo_feed_102
abbrev t_Mo_feed_98 : List UInt8 := 89 :: t_Mo_feed_99
abbrev t_Mo_feed_97 : List UInt8 := 42 :: t_Mo_feed_98
abbrev t_Mo_feed_96 : List UInt8 := 84 :: t_Mo_feed_97
abbrev t_Mo_feed_95 : List UInt8 := 145 :: t_Mo_feed_96
abbrev t_Mo_feed_94 : List UInt8 := 124 :: t_Mo_feed_95
abbrev t_Mo_feed_93 : List UInt8 := 100 :: t_Mo_feed_94
abbrev t_Mo_feed_92 : List UInt8 := 104 :: t_Mo_feed_93
abbrev t_Mo_feed_91 : List UInt8 := 112 :: t_Mo_feed_92
abbrev t_Mo_feed_90 : List UInt8 := 7 :: t_Mo_feed_91
abbrev t_Mo_feed_88 : List UInt8 := 21 :: 6 :: t_Mo_feed_90
abbrev t_Mo_feed_86 : List UInt8 := 16 :: 8 :: t_Mo_feed_88
abbrev t_Mo_feed_84 : List UInt8 := 16 :: 24 :: t_Mo_feed_86
abbrev t_Mo_feed_82 : List UInt8 := 21 :: 7 :: t_Mo_feed_84
abbrev t_Mo_feed_79 : List UInt8 := 180 :: 0 :: 212 :: t_Mo_feed_82
abbrev t_Mo_feed_78 : List UInt8 := 42 :: t_Mo_feed_79
abbrev t_Mo_feed_75 : List UInt8 := 180 :: 0 :: 9 :: t_Mo_feed_78
abbrev t_Mo_feed_74 : List UInt8 := 42 :: t_Mo_feed_75
abbrev t_Mo_feed_72 : List UInt8 := 54 :: 7 :: t_Mo_feed_74
abbrev t_Mo_feed_70 : List UInt8 := 21 :: 5 :: t_Mo_feed_72
abbrev t_Mo_feed_67 : List UInt8 := 167 :: 0 :: 5 :: t_Mo_feed_70
abbrev t_Mo_feed_65 : List UInt8 := 21 :: 4 :: t_Mo_feed_67
abbrev t_Mo_feed_62 : List UInt8 := 162 :: 0 :: 8 :: t_Mo_feed_65
abbrev t_Mo_feed_60 : List UInt8 := 16 :: 16 :: t_Mo_feed_62
abbrev t_Mo_feed_58 : List UInt8 := 21 :: 6 :: t_Mo_feed_60
abbrev t_Mo_feed_55 : List UInt8 := 167 :: 0 :: 17 :: t_Mo_feed_58
abbrev t_Mo_feed_54 : List UInt8 := 29 :: t_Mo_feed_55
abbrev t_Mo_feed_51 : List UInt8 := 162 :: 0 :: 7 :: t_Mo_feed_54
abbrev t_Mo_feed_49 : List UInt8 := 16 :: 12 :: t_Mo_feed_51
abbrev t_Mo_feed_47 : List UInt8 := 21 :: 6 :: t_Mo_feed_49
abbrev t_Mo_feed_44 : List UInt8 := 167 :: 0 :: 28 :: t_Mo_feed_47
abbrev t_Mo_feed_43 : List UInt8 := 28 :: t_Mo_feed_44
abbrev t_Mo_feed_40 : List UInt8 := 162 :: 0 :: 7 :: t_Mo_feed_43
abbrev t_Mo_feed_38 : List UInt8 := 16 :: 8 :: t_Mo_feed_40
abbrev t_Mo_feed_36 : List UInt8 := 21 :: 6 :: t_Mo_feed_38
abbrev t_Mo_feed_33 : List UInt8 := 167 :: 0 :: 39 :: t_Mo_feed_36
abbrev t_Mo_feed_32 : List UInt8 := 27 :: t_Mo_feed_33
abbrev t_Mo_feed_29 : List UInt8 := 162 :: 0 :: 7 :: t_Mo_feed_32
abbrev t_Mo_feed_28 : List UInt8 := 7 :: t_Mo_feed_29
abbrev t_Mo_feed_26 : List UInt8 := 21 :: 6 :: t_Mo_feed_28
abbrev t_Mo_feed_23 : List UInt8 := 162 :: 0 :: 90 :: t_Mo_feed_26
abbrev t_Mo_feed_21 : List UInt8 := 16 :: 20 :: t_Mo_feed_23
abbrev t_Mo_feed_19 : List UInt8 := 21 :: 6 :: t_Mo_feed_21
abbrev t_Mo_feed_17 : List UInt8 := 54 :: 6 :: t_Mo_feed_19
abbrev t_Mo_feed_16 : List UInt8 := 3 :: t_Mo_feed_17
abbrev t_Mo_feed_15 : List UInt8 := 172 :: t_Mo_feed_16
abbrev t_Mo_feed_13 : List UInt8 := 16 :: 254 :: t_Mo_feed_15
abbrev t_Mo_feed_10 : List UInt8 := 164 :: 0 :: 6 :: t_Mo_feed_13
abbrev t_Mo_feed_7 : List UInt8 := 17 :: 15 :: 180 :: t_Mo_feed_10
abbrev t_Mo_feed_6 : List UInt8 := 96 :: t_Mo_feed_7
abbrev t_Mo_feed_4 : List UInt8 := 16 :: 20 :: t_Mo_feed_6
abbrev t_Mo_feed_1 : List UInt8 := 180 :: 0 :: 212 :: t_Mo_feed_4
abbrev t_Mo_feed_0 : List UInt8 := 42 :: t_Mo_feed_1
theorem a_Mo_feed_0 : dk_at b_Mo_feed 0 t_Mo_feed_0 := dk_start (by decide +kernel)
theorem a_Mo_feed_1 : dk_at b_Mo_feed 1 t_Mo_feed_1 := dk_go 1 a_Mo_feed_0 rfl
theorem a_Mo_feed_4 : dk_at b_Mo_feed 4 t_Mo_feed_4 := dk_go 3 a_Mo_feed_1 rfl
theorem a_Mo_feed_6 : dk_at b_Mo_feed 6 t_Mo_feed_6 := dk_go 2 a_Mo_feed_4 rfl
theorem a_Mo_feed_7 : dk_at b_Mo_feed 7 t_Mo_feed_7 := dk_go 1 a_Mo_feed_6 rfl
theorem a_Mo_feed_10 : dk_at b_Mo_feed 10 t_Mo_feed_10 := dk_go 3 a_Mo_feed_7 rfl
theorem a_Mo_feed_13 : dk_at b_Mo_feed 13 t_Mo_feed_13 := dk_go 3 a_Mo_feed_10 rfl
theorem a_Mo_feed_15 : dk_at b_Mo_feed 15 t_Mo_feed_15 := dk_go 2 a_Mo_feed_13 rfl
theorem a_Mo_feed_16 : dk_at b_Mo_feed 16 t_Mo_feed_16 := dk_go 1 a_Mo_feed_15 rfl
theorem a_Mo_feed_17 : dk_at b_Mo_feed 17 t_Mo_feed_17 := dk_go 1 a_Mo_feed_16 rfl
theorem a_Mo_feed_19 : dk_at b_Mo_feed 19 t_Mo_feed_19 := dk_go 2 a_Mo_feed_17 rfl
theorem a_Mo_feed_21 : dk_at b_Mo_feed 21 t_Mo_feed_21 := dk_go 2 a_Mo_feed_19 rfl
theorem a_Mo_feed_23 : dk_at b_Mo_feed 23 t_Mo_feed_23 := dk_go 2 a_Mo_feed_21 rfl
theorem a_Mo_feed_26 : dk_at b_Mo_feed 26 t_Mo_feed_26 := dk_go 3 a_Mo_feed_23 rfl
theorem a_Mo_feed_28 : dk_at b_Mo_feed 28 t_Mo_feed_28 := dk_go 2 a_Mo_feed_26 rfl
theorem a_Mo_feed_29 : dk_at b_Mo_feed 29 t_Mo_feed_29 := dk_go 1 a_Mo_feed_28 rfl
theorem a_Mo_feed_32 : dk_at b_Mo_feed 32 t_Mo_feed_32 := dk_go 3 a_Mo_feed_29 rfl
theorem a_Mo_feed_33 : dk_at b_Mo_feed 33 t_Mo_feed_33 := dk_go 1 a_Mo_feed_32 rfl
theorem a_Mo_feed_36 : dk_at b_Mo_feed 36 t_Mo_feed_36 := dk_go 3 a_Mo_feed_33 rfl
theorem a_Mo_feed_38 : dk_at b_Mo_feed 38 t_Mo_feed_38 := dk_go 2 a_Mo_feed_36 rfl
theorem a_Mo_feed_40 : dk_at b_Mo_feed 40 t_Mo_feed_40 := dk_go 2 a_Mo_feed_38 rfl
theorem a_Mo_feed_43 : dk_at b_Mo_feed 43 t_Mo_feed_43 := dk_go 3 a_Mo_feed_40 rfl
theorem a_Mo_feed_44 : dk_at b_Mo_feed 44 t_Mo_feed_44 := dk_go 1 a_Mo_feed_43 rfl
theorem a_Mo_feed_47 : dk_at b_Mo_feed 47 t_Mo_feed_47 := dk_go 3 a_Mo_feed_44 rfl
theorem a_Mo_feed_49 : dk_at b_Mo_feed 49 t_Mo_feed_49 := dk_go 2 a_Mo_feed_47 rfl
theorem a_Mo_feed_51 : dk_at b_Mo_feed 51 t_Mo_feed_51 := dk_go 2 a_Mo_feed_49 rfl
theorem a_Mo_feed_54 : dk_at b_Mo_feed 54 t_Mo_feed_54 := dk_go 3 a_Mo_feed_51 rfl
theorem a_Mo_feed_55 : dk_at b_Mo_feed 55 t_Mo_feed_55 := dk_go 1 a_Mo_feed_54 rfl
theorem a_Mo_feed_58 : dk_at b_Mo_feed 58 t_Mo_feed_58 := dk_go 3 a_Mo_feed_55 rfl
theorem a_Mo_feed_60 : dk_at b_Mo_feed 60 t_Mo_feed_60 := dk_go 2 a_Mo_feed_58 rfl
theorem a_Mo_feed_62 : dk_at b_Mo_feed 62 t_Mo_feed_62 := dk_go 2 a_Mo_feed_60 rfl
theorem a_Mo_feed_65 : dk_at b_Mo_feed 65 t_Mo_feed_65 := dk_go 3 a_Mo_feed_62 rfl
theorem a_Mo_feed_67 : dk_at b_Mo_feed 67 t_Mo_feed_67 := dk_go 2 a_Mo_feed_65 rfl
theorem a_Mo_feed_70 : dk_at b_Mo_feed 70 t_Mo_feed_70 := dk_go 3 a_Mo_feed_67 rfl
theorem a_Mo_feed_72 : dk_at b_Mo_feed 72 t_Mo_feed_72 := dk_go 2 a_Mo_feed_70 rfl
theorem a_Mo_feed_74 : dk_at b_Mo_feed 74 t_Mo_feed_74 := dk_go 2 a_Mo_feed_72 rfl
theorem a_Mo_feed_75 : dk_at b_Mo_feed 75 t_Mo_feed_75 := dk_go 1 a_Mo_feed_74 rfl
theorem a_Mo_feed_78 : dk_at b_Mo_feed 78 t_Mo_feed_78 := dk_go 3 a_Mo_feed_75 rfl
theorem a_Mo_feed_79 : dk_at b_Mo_feed 79 t_Mo_feed_79 := dk_go 1 a_Mo_feed_78 rfl
theorem a_Mo_feed_82 : dk_at b_Mo_feed 82 t_Mo_feed_82 := dk_go 3 a_Mo_feed_79 rfl
theorem a_Mo_feed_84 : dk_at b_Mo_feed 84 t_Mo_feed_84 := dk_go 2 a_Mo_feed_82 rfl
theorem a_Mo_feed_86 : dk_at b_Mo_feed 86 t_Mo_feed_86 := dk_go 2 a_Mo_feed_84 rfl
theorem a_Mo_feed_88 : dk_at b_Mo_feed 88 t_Mo_feed_88 := dk_go 2 a_Mo_feed_86 rfl
theorem a_Mo_feed_90 : dk_at b_Mo_feed 90 t_Mo_feed_90 := dk_go 2 a_Mo_feed_88 rfl
theorem a_Mo_feed_91 : dk_at b_Mo_feed 91 t_Mo_feed_91 := dk_go 1 a_Mo_feed_90 rfl
theorem a_Mo_feed_92 : dk_at b_Mo_feed 92 t_Mo_feed_92 := dk_go 1 a_Mo_feed_91 rfl
theorem a_Mo_feed_93 : dk_at b_Mo_feed 93 t_Mo_feed_93 := dk_go 1 a_Mo_feed_92 rfl
theorem a_Mo_feed_94 : dk_at b_Mo_feed 94 t_Mo_feed_94 := dk_go 1 a_Mo_feed_93 rfl
theorem a_Mo_feed_95 : dk_at b_Mo_feed 95 t_Mo_feed_95 := dk_go 1 a_Mo_feed_94 rfl
theorem a_Mo_feed_96 : dk_at b_Mo_feed 96 t_Mo_feed_96 := dk_go 1 a_Mo_feed_95 rfl
theorem a_Mo_feed_97 : dk_at b_Mo_feed 97 t_Mo_feed_97 := dk_go 1 a_Mo_feed_96 rfl
theorem a_Mo_feed_98 : dk_at b_Mo_feed 98 t_Mo_feed_98 := dk_go 1 a_Mo_feed_97 rfl
theorem a_Mo_feed_99 : dk_at b_Mo_feed 99 t_Mo_feed_99 := dk_go 1 a_Mo_feed_98 rfl
theorem a_Mo_feed_102 : dk_at b_Mo_feed 102 t_Mo_feed_102 := dk_go 3 a_Mo_feed_99 rfl
theorem a_Mo_feed_103 : dk_at b_Mo_feed 103 t_Mo_feed_103 := dk_go 1 a_Mo_feed_102 rfl
theorem a_Mo_feed_104 : dk_at b_Mo_feed 104 t_Mo_feed_104 := dk_go 1 a_Mo_feed_103 rfl
theorem a_Mo_feed_107 : dk_at b_Mo_feed 107 t_Mo_feed_107 := dk_go 3 a_Mo_feed_104 rfl
theorem a_Mo_feed_110 : dk_at b_Mo_feed 110 t_Mo_feed_110 := dk_go 3 a_Mo_feed_107 rfl
theorem a_Mo_feed_113 : dk_at b_Mo_feed 113 t_Mo_feed_113 := dk_go 3 a_Mo_feed_110 rfl
theorem a_Mo_feed_114 : dk_at b_Mo_feed 114 t_Mo_feed_114 := dk_go 1 a_Mo_feed_113 rfl
theorem a_Mo_feed_117 : dk_at b_Mo_feed 117 t_Mo_feed_117 := dk_go 3 a_Mo_feed_114 rfl
theorem d_Mo_feed_0 : decode b_Mo_feed 0 = .ok (.aload_n 0, 1) := dk_0 a_Mo_feed_0 (dko_42 _)
theorem d_Mo_feed_1 : decode b_Mo_feed 1 = .ok (.getfield 212, 3) := dk_U2 a_Mo_feed_1 (dko_180 _) rfl
theorem d_Mo_feed_4 : decode b_Mo_feed 4 = .ok (.bipush 20, 2) := dk_S1 a_Mo_feed_4 (dko_16 _) (by decide +kernel)
theorem d_Mo_feed_6 : decode b_Mo_feed 6 = .ok (.iadd, 1) := dk_0 a_Mo_feed_6 (dko_96 _)
theorem d_Mo_feed_7 : decode b_Mo_feed 7 = .ok (.sipush 4020, 3) := dk_S2 a_Mo_feed_7 (dko_17 _) (by decide +kernel)
theorem d_Mo_feed_10 : decode b_Mo_feed 10 = .ok (.if_icmp .le 6, 3) := dk_S2 a_Mo_feed_10 (dko_164 _) (by decide +kernel)
theorem d_Mo_feed_13 : decode b_Mo_feed 13 = .ok (.bipush (-2), 2) := dk_S1 a_Mo_feed_13 (dko_16 _) (by decide +kernel)
theorem d_Mo_feed_15 : decode b_Mo_feed 15 = .ok (.ireturn, 1) := dk_0 a_Mo_feed_15 (dko_172 _)
theorem d_Mo_feed_16 : decode b_Mo_feed 16 = .ok (.iconst 0, 1) := dk_0 a_Mo_feed_16 (dko_3 _)
theorem d_Mo_feed_17 : decode b_Mo_feed 17 = .ok (.istore 6, 2) := dk_U1 a_Mo_feed_17 (dko_54 _) rfl
theorem d_Mo_feed_19 : decode b_Mo_feed 19 = .ok (.iload 6, 2) := dk_U1 a_Mo_feed_19 (dko_21 _) rfl
theorem d_Mo_feed_21 : decode b_Mo_feed 21 = .ok (.bipush 20, 2) := dk_S1 a_Mo_feed_21 (dko_16 _) (by decide +kernel)
theorem d_Mo_feed_23 : decode b_Mo_feed 23 = .ok (.if_icmp .ge 90, 3) := dk_S2 a_Mo_feed_23 (dko_162 _) (by decide +kernel)
theorem d_Mo_feed_26 : decode b_Mo_feed 26 = .ok (.iload 6, 2) := dk_U1 a_Mo_feed_26 (dko_21 _) rfl
theorem d_Mo_feed_28 : decode b_Mo_feed 28 = .ok (.iconst 4, 1) := dk_0 a_Mo_feed_28 (dko_7 _)
theorem d_Mo_feed_29 : decode b_Mo_feed 29 = .ok (.if_icmp .ge 7, 3) := dk_S2 a_Mo_feed_29 (dko_162 _) (by decide +kernel)
theorem d_Mo_feed_32 : decode b_Mo_feed 32 = .ok (.iload_n 1, 1) := dk_0 a_Mo_feed_32 (dko_27 _)
theorem d_Mo_feed_33 : decode b_Mo_feed 33 = .ok (.goto 39, 3) := dk_S2 a_Mo_feed_33 (dko_167 _) (by decide +kernel)
theorem d_Mo_feed_36 : decode b_Mo_feed 36 = .ok (.iload 6, 2) := dk_U1 a_Mo_feed_36 (dko_21 _) rfl
theorem d_Mo_feed_38 : decode b_Mo_feed 38 = .ok (.bipush 8, 2) := dk_S1 a_Mo_feed_38 (dko_16 _) (by decide +kernel)
theorem d_Mo_feed_40 : decode b_Mo_feed 40 = .ok (.if_icmp .ge 7, 3) := dk_S2 a_Mo_feed_40 (dko_162 _) (by decide +kernel)
theorem d_Mo_feed_43 : decode b_Mo_feed 43 = .ok (.iload_n 2, 1) := dk_0 a_Mo_feed_43 (dko_28 _)
theorem d_Mo_feed_44 : decode b_Mo_feed 44 = .ok (.goto 28, 3) := dk_S2 a_Mo_feed_44 (dko_167 _) (by decide +kernel)
theorem d_Mo_feed_47 : decode b_Mo_feed 47 = .ok (.iload 6, 2) := dk_U1 a_Mo_feed_47 (dko_21 _) rfl
theorem d_Mo_feed_49 : decode b_Mo_feed 49 = .ok (.bipush 12, 2) := dk_S1 a_Mo_feed_49 (dko_16 _) (by decide +kernel)
theorem d_Mo_feed_51 : decode b_Mo_feed 51 = .ok (.if_icmp .ge 7, 3) := dk_S2 a_Mo_feed_51 (dko_162 _) (by decide +kernel)
theorem d_Mo_feed_54 : decode b_Mo_feed 54 = .ok (.iload_n 3, 1) := dk_0 a_Mo_feed_54 (dko_29 _)
theorem d_Mo_feed_55 : decode b_Mo_feed 55 = .ok (.goto 17, 3) := dk_S2 a_Mo_feed_55 (dko_167 _) (by decide +kernel)
theorem d_Mo_feed_58 : decode b_Mo_feed 58 = .ok (.iload 6, 2) := dk_U1 a_Mo_feed_58 (dko_21 _) rfl
theorem d_Mo_feed_60 : decode b_Mo_feed 60 = .ok (.bipush 16, 2) := dk_S1 a_Mo_feed_60 (dko_16 _) (by decide +kernel)
theorem d_Mo_feed_62 : decode b_Mo_feed 62 = .ok (.if_icmp .ge 8, 3) := dk_S2 a_Mo_feed_62 (dko_162 _) (by decide +kernel)
theorem d_Mo_feed_65 : decode b_Mo_feed 65 = .ok (.iload 4, 2) := dk_U1 a_Mo_feed_65 (dko_21 _) rfl
theorem d_Mo_feed_67 : decode b_Mo_feed 67 = .ok (.goto 5, 3) := dk_S2 a_Mo_feed_67 (dko_167 _) (by decide +kernel)
theorem d_Mo_feed_70 : decode b_Mo_feed 70 = .ok (.iload 5, 2) := dk_U1 a_Mo_feed_70 (dko_21 _) rfl
theorem d_Mo_feed_72 : decode b_Mo_feed 72 = .ok (.istore 7, 2) := dk_U1 a_Mo_feed_72 (dko_54 _) rfl
theorem d_Mo_feed_74 : decode b_Mo_feed 74 = .ok (.aload_n 0, 1) := dk_0 a_Mo_feed_74 (dko_42 _)
theorem d_Mo_feed_75 : decode b_Mo_feed 75 = .ok (.getfield 9, 3) := dk_U2 a_Mo_feed_75 (dko_180 _) rfl
theorem d_Mo_feed_78 : decode b_Mo_feed 78 = .ok (.aload_n 0, 1) := dk_0 a_Mo_feed_78 (dko_42 _)
theorem d_Mo_feed_79 : decode b_Mo_feed 79 = .ok (.getfield 212, 3) := dk_U2 a_Mo_feed_79 (dko_180 _) rfl
theorem d_Mo_feed_82 : decode b_Mo_feed 82 = .ok (.iload 7, 2) := dk_U1 a_Mo_feed_82 (dko_21 _) rfl
theorem d_Mo_feed_84 : decode b_Mo_feed 84 = .ok (.bipush 24, 2) := dk_S1 a_Mo_feed_84 (dko_16 _) (by decide +kernel)
theorem d_Mo_feed_86 : decode b_Mo_feed 86 = .ok (.bipush 8, 2) := dk_S1 a_Mo_feed_86 (dko_16 _) (by decide +kernel)
theorem d_Mo_feed_88 : decode b_Mo_feed 88 = .ok (.iload 6, 2) := dk_U1 a_Mo_feed_88 (dko_21 _) rfl
theorem d_Mo_feed_90 : decode b_Mo_feed 90 = .ok (.iconst 4, 1) := dk_0 a_Mo_feed_90 (dko_7 _)
theorem d_Mo_feed_91 : decode b_Mo_feed 91 = .ok (.irem, 1) := dk_0 a_Mo_feed_91 (dko_112 _)
theorem d_Mo_feed_92 : decode b_Mo_feed 92 = .ok (.imul, 1) := dk_0 a_Mo_feed_92 (dko_104 _)
theorem d_Mo_feed_93 : decode b_Mo_feed 93 = .ok (.isub, 1) := dk_0 a_Mo_feed_93 (dko_100 _)
theorem d_Mo_feed_94 : decode b_Mo_feed 94 = .ok (.iushr, 1) := dk_0 a_Mo_feed_94 (dko_124 _)
theorem d_Mo_feed_95 : decode b_Mo_feed 95 = .ok (.i2b, 1) := dk_0 a_Mo_feed_95 (dko_145 _)
theorem d_Mo_feed_96 : decode b_Mo_feed 96 = .ok (.bastore, 1) := dk_0 a_Mo_feed_96 (dko_84 _)
theorem d_Mo_feed_97 : decode b_Mo_feed 97 = .ok (.aload_n 0, 1) := dk_0 a_Mo_feed_97 (dko_42 _)
theorem d_Mo_feed_98 : decode b_Mo_feed 98 = .ok (.dup, 1) := dk_0 a_Mo_feed_98 (dko_89 _)
theorem d_Mo_feed_99 : decode b_Mo_feed 99 = .ok (.getfield 212, 3) := dk_U2 a_Mo_feed_99 (dko_180 _) rfl
theorem d_Mo_feed_102 : decode b_Mo_feed 102 = .ok (.iconst 1, 1) := dk_0 a_Mo_feed_102 (dko_4 _)
theorem d_Mo_feed_103 : decode b_Mo_feed 103 = .ok (.iadd, 1) := dk_0 a_Mo_feed_103 (dko_96 _)
theorem d_Mo_feed_104 : decode b_Mo_feed 104 = .ok (.putfield 212, 3) := dk_U2 a_Mo_feed_104 (dko_181 _) rfl
theorem d_Mo_feed_107 : decode b_Mo_feed 107 = .ok (.iinc 6 1, 3) := dk_US a_Mo_feed_107 (dko_132 _) (by decide +kernel)
theorem d_Mo_feed_110 : decode b_Mo_feed 110 = .ok (.goto (-91), 3) := dk_S2 a_Mo_feed_110 (dko_167 _) (by decide +kernel)
theorem d_Mo_feed_113 : decode b_Mo_feed 113 = .ok (.aload_n 0, 1) := dk_0 a_Mo_feed_113 (dko_42 _)
theorem d_Mo_feed_114 : decode b_Mo_feed 114 = .ok (.getfield 212, 3) := dk_U2 a_Mo_feed_114 (dko_180 _) rfl
theorem d_Mo_feed_117 : decode b_Mo_feed 117 = .ok (.ireturn, 1) := dk_0 a_Mo_feed_117 (dko_172 _)
set_option maxHeartbeats 4000000 in
set_option maxRecDepth 100000 in
theorem ok_Mo_feed (pc : Nat) : OpS mt mi_Mo_feed pc (cs_Mo_feed pc) := (os_n (os_n (os_n (os_n (os_n (os_l (so_aload_n d_Mo_feed_0 rfl)) (os_n (os_l (so_get (C := R_Mo) (T := F_Mo) (N := 87) (j := 1) in_Mo rfl (by decide) mw_1795 d_Mo_feed_1)) (os_l (so_bipush d_Mo_feed_4 (by decide))))) (os_n (os_n (os_l (so_iadd d_Mo_feed_6)) (os_l (so_sipush d_Mo_feed_7 (by decide)))) (os_n (os_l (so_icle d_Mo_feed_10 (by decide))) (os_l (so_bipush d_Mo_feed_13 (by decide)))))) (os_n (os_n (os_n (os_l (so_ireturn rfl d_Mo_feed_15)) (os_l (so_iconst d_Mo_feed_16 (by decide)))) (os_n (os_l (so_istore d_Mo_feed_17 (by decide))) (os_l (so_iload d_Mo_feed_19)))) (os_n (os_n (os_l (so_bipush d_Mo_feed_21 (by decide))) (os_l (so_icge d_Mo_feed_23 (by decide)))) (os_n (os_l (so_iload d_Mo_feed_26)) (os_l (so_iconst d_Mo_feed_28 (by decide))))))) (os_n (os_n (os_n (os_l (so_icge d_Mo_feed_29 (by decide))) (os_n (os_l (so_iload_n d_Mo_feed_32 rfl)) (os_l (so_goto d_Mo_feed_33 (by decide))))) (os_n (os_n (os_l (so_iload d_Mo_feed_36)) (os_l (so_bipush d_Mo_feed_38 (by decide)))) (os_n (os_l (so_icge d_Mo_feed_40 (by decide))) (os_l (so_iload_n d_Mo_feed_43 rfl))))) (os_n (os_n (os_n (os_l (so_goto d_Mo_feed_44 (by decide))) (os_l (so_iload d_Mo_feed_47))) (os_n (os_l (so_bipush d_Mo_feed_49 (by decide))) (os_l (so_icge d_Mo_feed_51 (by decide))))) (os_n (os_n (os_l (so_iload_n d_Mo_feed_54 rfl)) (os_l (so_goto d_Mo_feed_55 (by decide)))) (os_n (os_l (so_iload d_Mo_feed_58)) (os_l (so_bipush d_Mo_feed_60 (by decide)))))))) (os_n (os_n (os_n (os_n (os_l (so_icge d_Mo_feed_62 (by decide))) (os_n (os_l (so_iload d_Mo_feed_65)) (os_l (so_goto d_Mo_feed_67 (by decide))))) (os_n (os_n (os_l (so_iload d_Mo_feed_70)) (os_l (so_istore d_Mo_feed_72 (by decide)))) (os_n (os_l (so_aload_n d_Mo_feed_74 rfl)) (os_l (so_get (C := R_Mo) (T := F_Mo) (N := 87) (j := 0) in_Mo rfl (by decide) mw_1794 d_Mo_feed_75))))) (os_n (os_n (os_n (os_l (so_aload_n d_Mo_feed_78 rfl)) (os_l (so_get (C := R_Mo) (T := F_Mo) (N := 87) (j := 1) in_Mo rfl (by decide) mw_1795 d_Mo_feed_79))) (os_n (os_l (so_iload d_Mo_feed_82)) (os_l (so_bipush d_Mo_feed_84 (by decide))))) (os_n (os_n (os_l (so_bipush d_Mo_feed_86 (by decide))) (os_l (so_iload d_Mo_feed_88))) (os_n (os_l (so_iconst d_Mo_feed_90 (by decide))) (os_l (so_irem d_Mo_feed_91)))))) (os_n (os_n (os_n (os_n (os_l (so_imul d_Mo_feed_92)) (os_l (so_isub d_Mo_feed_93))) (os_n (os_l (so_iushr d_Mo_feed_94)) (os_l (so_i2b d_Mo_feed_95)))) (os_n (os_n (os_l (so_bastore d_Mo_feed_96)) (os_l (so_aload_n d_Mo_feed_97 rfl))) (os_n (os_l (so_dup d_Mo_feed_98)) (os_l (so_get (C := R_Mo) (T := F_Mo) (N := 87) (j := 1) in_Mo rfl (by decide) mw_1795 d_Mo_feed_99))))) (os_n (os_n (os_n (os_l (so_iconst d_Mo_feed_102 (by decide))) (os_l (so_iadd d_Mo_feed_103))) (os_n (os_l (so_putI (C := R_Mo) (T := F_Mo) (N := 87) (j := 1) in_Mo t_Mo_ok n_Mo rfl (by decide) mw_1795 rfl (by decide +kernel) d_Mo_feed_104)) (os_l (so_iinc d_Mo_feed_107 (by decide) (by decide))))) (os_n (os_n (os_l (so_goto d_Mo_feed_110 (by decide))) (os_l (so_aload_n d_Mo_feed_113 rfl))) (os_n (os_l (so_get (C := R_Mo) (T := F_Mo) (N := 87) (j := 1) in_Mo rfl (by decide) mw_1795 d_Mo_feed_114)) (os_l (so_ireturn rfl d_Mo_feed_117))))))))
abbrev t_Mo_end_236 : List UInt8 := 172 :: []
abbrev t_Mo_end_234 : List UInt8 := 21 :: 4 :: t_Mo_end_236
abbrev t_Mo_end_231 : List UInt8 := 167 :: 0 :: 5 :: t_Mo_end_234
abbrev t_Mo_end_230 : List UInt8 := 100 :: t_Mo_end_231
abbrev t_Mo_end_229 : List UInt8 := 5 :: t_Mo_end_230
abbrev t_Mo_end_227 : List UInt8 := 21 :: 4 :: t_Mo_end_229
abbrev t_Mo_end_224 : List UInt8 := 156 :: 0 :: 10 :: t_Mo_end_227
abbrev t_Mo_end_222 : List UInt8 := 21 :: 4 :: t_Mo_end_224
abbrev t_Mo_end_219 : List UInt8 := 167 :: 255 :: 230 :: t_Mo_end_222
abbrev t_Mo_end_216 : List UInt8 := 132 :: 5 :: 1 :: t_Mo_end_219
abbrev t_Mo_end_215 : List UInt8 := 80 :: t_Mo_end_216
abbrev t_Mo_end_214 : List UInt8 := 9 :: t_Mo_end_215
abbrev t_Mo_end_212 : List UInt8 := 21 :: 5 :: t_Mo_end_214
abbrev t_Mo_end_209 : List UInt8 := 180 :: 0 :: 159 :: t_Mo_end_212
abbrev t_Mo_end_208 : List UInt8 := 42 :: t_Mo_end_209
abbrev t_Mo_end_207 : List UInt8 := 79 :: t_Mo_end_208
abbrev t_Mo_end_206 : List UInt8 := 2 :: t_Mo_end_207
abbrev t_Mo_end_204 : List UInt8 := 21 :: 5 :: t_Mo_end_206
abbrev t_Mo_end_201 : List UInt8 := 180 :: 0 :: 144 :: t_Mo_end_204
abbrev t_Mo_end_200 : List UInt8 := 42 :: t_Mo_end_201
abbrev t_Mo_end_197 : List UInt8 := 162 :: 0 :: 25 :: t_Mo_end_200
abbrev t_Mo_end_195 : List UInt8 := 16 :: 40 :: t_Mo_end_197
abbrev t_Mo_end_193 : List UInt8 := 21 :: 5 :: t_Mo_end_195
abbrev t_Mo_end_191 : List UInt8 := 54 :: 5 :: t_Mo_end_193
abbrev t_Mo_end_190 : List UInt8 := 3 :: t_Mo_end_191
abbrev t_Mo_end_187 : List UInt8 := 182 :: 0 :: 231 :: t_Mo_end_190
abbrev t_Mo_end_186 : List UInt8 := 42 :: t_Mo_end_187
abbrev t_Mo_end_183 : List UInt8 := 181 :: 0 :: 162 :: t_Mo_end_186
abbrev t_Mo_end_182 : List UInt8 := 7 :: t_Mo_end_183
abbrev t_Mo_end_181 : List UInt8 := 42 :: t_Mo_end_182
abbrev t_Mo_end_178 : List UInt8 := 155 :: 0 :: 44 :: t_Mo_end_181
abbrev t_Mo_end_176 : List UInt8 := 21 :: 4 :: t_Mo_end_178
abbrev t_Mo_end_173 : List UInt8 := 160 :: 0 :: 49 :: t_Mo_end_176
abbrev t_Mo_end_172 : List UInt8 := 5 :: t_Mo_end_173
abbrev t_Mo_end_171 : List UInt8 := 27 :: t_Mo_end_172
abbrev t_Mo_end_169 : List UInt8 := 54 :: 4 :: t_Mo_end_171
abbrev t_Mo_end_166 : List UInt8 := 182 :: 0 :: 230 :: t_Mo_end_169
abbrev t_Mo_end_163 : List UInt8 := 180 :: 0 :: 16 :: t_Mo_end_166
abbrev t_Mo_end_162 : List UInt8 := 42 :: t_Mo_end_163
abbrev t_Mo_end_159 : List UInt8 := 167 :: 0 :: 10 :: t_Mo_end_162
abbrev t_Mo_end_156 : List UInt8 := 182 :: 0 :: 227 :: t_Mo_end_159
abbrev t_Mo_end_153 : List UInt8 := 180 :: 0 :: 23 :: t_Mo_end_156
abbrev t_Mo_end_152 : List UInt8 := 42 :: t_Mo_end_153
abbrev t_Mo_end_149 : List UInt8 := 160 :: 0 :: 13 :: t_Mo_end_152
abbrev t_Mo_end_148 : List UInt8 := 4 :: t_Mo_end_149
abbrev t_Mo_end_147 : List UInt8 := 27 :: t_Mo_end_148
abbrev t_Mo_end_144 : List UInt8 := 167 :: 255 :: 209 :: t_Mo_end_147
abbrev t_Mo_end_141 : List UInt8 := 132 :: 4 :: 1 :: t_Mo_end_144
abbrev t_Mo_end_139 : List UInt8 := 54 :: 5 :: t_Mo_end_141
abbrev t_Mo_end_136 : List UInt8 := 182 :: 0 :: 226 :: t_Mo_end_139
abbrev t_Mo_end_135 : List UInt8 := 51 :: t_Mo_end_136
abbrev t_Mo_end_133 : List UInt8 := 21 :: 4 :: t_Mo_end_135
abbrev t_Mo_end_130 : List UInt8 := 180 :: 0 :: 9 :: t_Mo_end_133
abbrev t_Mo_end_129 : List UInt8 := 42 :: t_Mo_end_130
abbrev t_Mo_end_126 : List UInt8 := 180 :: 0 :: 16 :: t_Mo_end_129
abbrev t_Mo_end_125 : List UInt8 := 42 :: t_Mo_end_126
abbrev t_Mo_end_122 : List UInt8 := 167 :: 0 :: 17 :: t_Mo_end_125
abbrev t_Mo_end_119 : List UInt8 := 182 :: 0 :: 222 :: t_Mo_end_122
abbrev t_Mo_end_118 : List UInt8 := 51 :: t_Mo_end_119
abbrev t_Mo_end_116 : List UInt8 := 21 :: 4 :: t_Mo_end_118
abbrev t_Mo_end_113 : List UInt8 := 180 :: 0 :: 9 :: t_Mo_end_116
abbrev t_Mo_end_112 : List UInt8 := 42 :: t_Mo_end_113
abbrev t_Mo_end_109 : List UInt8 := 180 :: 0 :: 23 :: t_Mo_end_112
abbrev t_Mo_end_108 : List UInt8 := 42 :: t_Mo_end_109
abbrev t_Mo_end_105 : List UInt8 := 160 :: 0 :: 20 :: t_Mo_end_108
abbrev t_Mo_end_104 : List UInt8 := 4 :: t_Mo_end_105
abbrev t_Mo_end_103 : List UInt8 := 27 :: t_Mo_end_104
abbrev t_Mo_end_100 : List UInt8 := 162 :: 0 :: 47 :: t_Mo_end_103
abbrev t_Mo_end_99 : List UInt8 := 28 :: t_Mo_end_100
abbrev t_Mo_end_97 : List UInt8 := 21 :: 4 :: t_Mo_end_99
abbrev t_Mo_end_95 : List UInt8 := 54 :: 4 :: t_Mo_end_97
abbrev t_Mo_end_94 : List UInt8 := 3 :: t_Mo_end_95
abbrev t_Mo_end_93 : List UInt8 := 172 :: t_Mo_end_94
abbrev t_Mo_end_90 : List UInt8 := 182 :: 0 :: 218 :: t_Mo_end_93
abbrev t_Mo_end_89 : List UInt8 := 42 :: t_Mo_end_90
abbrev t_Mo_end_86 : List UInt8 := 181 :: 0 :: 215 :: t_Mo_end_89
abbrev t_Mo_end_85 : List UInt8 := 28 :: t_Mo_end_86
abbrev t_Mo_end_84 : List UInt8 := 42 :: t_Mo_end_85
abbrev t_Mo_end_81 : List UInt8 := 154 :: 0 :: 13 :: t_Mo_end_84
abbrev t_Mo_end_80 : List UInt8 := 27 :: t_Mo_end_81
abbrev t_Mo_end_79 : List UInt8 := 172 :: t_Mo_end_80
abbrev t_Mo_end_78 : List UInt8 := 2 :: t_Mo_end_79
abbrev t_Mo_end_75 : List UInt8 := 154 :: 0 :: 5 :: t_Mo_end_78
abbrev t_Mo_end_74 : List UInt8 := 29 :: t_Mo_end_75
abbrev t_Mo_end_71 : List UInt8 := 181 :: 0 :: 212 :: t_Mo_end_74
abbrev t_Mo_end_70 : List UInt8 := 3 :: t_Mo_end_71
abbrev t_Mo_end_69 : List UInt8 := 42 :: t_Mo_end_70
abbrev t_Mo_end_66 : List UInt8 := 167 :: 255 :: 227 :: t_Mo_end_69
abbrev t_Mo_end_63 : List UInt8 := 132 :: 4 :: 1 :: t_Mo_end_66
abbrev t_Mo_end_62 : List UInt8 := 62 :: t_Mo_end_63
abbrev t_Mo_end_61 : List UInt8 := 3 :: t_Mo_end_62
abbrev t_Mo_end_58 : List UInt8 := 167 :: 0 :: 4 :: t_Mo_end_61
abbrev t_Mo_end_57 : List UInt8 := 4 :: t_Mo_end_58
abbrev t_Mo_end_54 : List UInt8 := 158 :: 0 :: 7 :: t_Mo_end_57
abbrev t_Mo_end_53 : List UInt8 := 51 :: t_Mo_end_54
abbrev t_Mo_end_51 : List UInt8 := 21 :: 4 :: t_Mo_end_53
abbrev t_Mo_end_48 : List UInt8 := 180 :: 0 :: 9 :: t_Mo_end_51
abbrev t_Mo_end_47 : List UInt8 := 42 :: t_Mo_end_48
abbrev t_Mo_end_44 : List UInt8 := 153 :: 0 :: 25 :: t_Mo_end_47
abbrev t_Mo_end_43 : List UInt8 := 29 :: t_Mo_end_44
abbrev t_Mo_end_40 : List UInt8 := 162 :: 0 :: 29 :: t_Mo_end_43
abbrev t_Mo_end_39 : List UInt8 := 28 :: t_Mo_end_40
abbrev t_Mo_end_37 : List UInt8 := 21 :: 4 :: t_Mo_end_39
abbrev t_Mo_end_35 : List UInt8 := 54 :: 4 :: t_Mo_end_37
abbrev t_Mo_end_34 : List UInt8 := 3 :: t_Mo_end_35
abbrev t_Mo_end_33 : List UInt8 := 62 :: t_Mo_end_34
abbrev t_Mo_end_32 : List UInt8 := 3 :: t_Mo_end_33
abbrev t_Mo_end_29 : List UInt8 := 167 :: 0 :: 4 :: t_Mo_end_32
abbrev t_Mo_end_28 : List UInt8 := 4 :: t_Mo_end_29
abbrev t_Mo_end_25 : List UInt8 := 163 :: 0 :: 7 :: t_Mo_end_28
abbrev t_Mo_end_22 : List UInt8 := 180 :: 0 :: 212 :: t_Mo_end_25
abbrev t_Mo_end_21 : List UInt8 := 42 :: t_Mo_end_22
abbrev t_Mo_end_20 : List UInt8 := 28 :: t_Mo_end_21
abbrev t_Mo_end_17 : List UInt8 := 163 :: 0 :: 15 :: t_Mo_end_20
abbrev t_Mo_end_14 : List UInt8 := 17 :: 15 :: 160 :: t_Mo_end_17
abbrev t_Mo_end_13 : List UInt8 := 28 :: t_Mo_end_14
abbrev t_Mo_end_10 : List UInt8 := 155 :: 0 :: 22 :: t_Mo_end_13
abbrev t_Mo_end_9 : List UInt8 := 28 :: t_Mo_end_10
abbrev t_Mo_end_6 : List UInt8 := 163 :: 0 :: 26 :: t_Mo_end_9
abbrev t_Mo_end_5 : List UInt8 := 5 :: t_Mo_end_6
abbrev t_Mo_end_4 : List UInt8 := 27 :: t_Mo_end_5
abbrev t_Mo_end_1 : List UInt8 := 155 :: 0 :: 31 :: t_Mo_end_4
abbrev t_Mo_end_0 : List UInt8 := 27 :: t_Mo_end_1
theorem a_Mo_end_0 : dk_at b_Mo_end 0 t_Mo_end_0 := dk_start (by decide +kernel)
theorem a_Mo_end_1 : dk_at b_Mo_end 1 t_Mo_end_1 := dk_go 1 a_Mo_end_0 rfl
theorem a_Mo_end_4 : dk_at b_Mo_end 4 t_Mo_end_4 := dk_go 3 a_Mo_end_1 rfl
theorem a_Mo_end_5 : dk_at b_Mo_end 5 t_Mo_end_5 := dk_go 1 a_Mo_end_4 rfl
theorem a_Mo_end_6 : dk_at b_Mo_end 6 t_Mo_end_6 := dk_go 1 a_Mo_end_5 rfl
theorem a_Mo_end_9 : dk_at b_Mo_end 9 t_Mo_end_9 := dk_go 3 a_Mo_end_6 rfl
theorem a_Mo_end_10 : dk_at b_Mo_end 10 t_Mo_end_10 := dk_go 1 a_Mo_end_9 rfl
theorem a_Mo_end_13 : dk_at b_Mo_end 13 t_Mo_end_13 := dk_go 3 a_Mo_end_10 rfl
theorem a_Mo_end_14 : dk_at b_Mo_end 14 t_Mo_end_14 := dk_go 1 a_Mo_end_13 rfl
theorem a_Mo_end_17 : dk_at b_Mo_end 17 t_Mo_end_17 := dk_go 3 a_Mo_end_14 rfl
theorem a_Mo_end_20 : dk_at b_Mo_end 20 t_Mo_end_20 := dk_go 3 a_Mo_end_17 rfl
theorem a_Mo_end_21 : dk_at b_Mo_end 21 t_Mo_end_21 := dk_go 1 a_Mo_end_20 rfl
theorem a_Mo_end_22 : dk_at b_Mo_end 22 t_Mo_end_22 := dk_go 1 a_Mo_end_21 rfl
theorem a_Mo_end_25 : dk_at b_Mo_end 25 t_Mo_end_25 := dk_go 3 a_Mo_end_22 rfl
theorem a_Mo_end_28 : dk_at b_Mo_end 28 t_Mo_end_28 := dk_go 3 a_Mo_end_25 rfl
theorem a_Mo_end_29 : dk_at b_Mo_end 29 t_Mo_end_29 := dk_go 1 a_Mo_end_28 rfl
theorem a_Mo_end_32 : dk_at b_Mo_end 32 t_Mo_end_32 := dk_go 3 a_Mo_end_29 rfl
theorem a_Mo_end_33 : dk_at b_Mo_end 33 t_Mo_end_33 := dk_go 1 a_Mo_end_32 rfl
theorem a_Mo_end_34 : dk_at b_Mo_end 34 t_Mo_end_34 := dk_go 1 a_Mo_end_33 rfl
theorem a_Mo_end_35 : dk_at b_Mo_end 35 t_Mo_end_35 := dk_go 1 a_Mo_end_34 rfl
theorem a_Mo_end_37 : dk_at b_Mo_end 37 t_Mo_end_37 := dk_go 2 a_Mo_end_35 rfl
theorem a_Mo_end_39 : dk_at b_Mo_end 39 t_Mo_end_39 := dk_go 2 a_Mo_end_37 rfl
theorem a_Mo_end_40 : dk_at b_Mo_end 40 t_Mo_end_40 := dk_go 1 a_Mo_end_39 rfl
theorem a_Mo_end_43 : dk_at b_Mo_end 43 t_Mo_end_43 := dk_go 3 a_Mo_end_40 rfl
theorem a_Mo_end_44 : dk_at b_Mo_end 44 t_Mo_end_44 := dk_go 1 a_Mo_end_43 rfl
theorem a_Mo_end_47 : dk_at b_Mo_end 47 t_Mo_end_47 := dk_go 3 a_Mo_end_44 rfl
theorem a_Mo_end_48 : dk_at b_Mo_end 48 t_Mo_end_48 := dk_go 1 a_Mo_end_47 rfl
theorem a_Mo_end_51 : dk_at b_Mo_end 51 t_Mo_end_51 := dk_go 3 a_Mo_end_48 rfl
theorem a_Mo_end_53 : dk_at b_Mo_end 53 t_Mo_end_53 := dk_go 2 a_Mo_end_51 rfl
theorem a_Mo_end_54 : dk_at b_Mo_end 54 t_Mo_end_54 := dk_go 1 a_Mo_end_53 rfl
theorem a_Mo_end_57 : dk_at b_Mo_end 57 t_Mo_end_57 := dk_go 3 a_Mo_end_54 rfl
theorem a_Mo_end_58 : dk_at b_Mo_end 58 t_Mo_end_58 := dk_go 1 a_Mo_end_57 rfl
theorem a_Mo_end_61 : dk_at b_Mo_end 61 t_Mo_end_61 := dk_go 3 a_Mo_end_58 rfl
theorem a_Mo_end_62 : dk_at b_Mo_end 62 t_Mo_end_62 := dk_go 1 a_Mo_end_61 rfl
theorem a_Mo_end_63 : dk_at b_Mo_end 63 t_Mo_end_63 := dk_go 1 a_Mo_end_62 rfl
theorem a_Mo_end_66 : dk_at b_Mo_end 66 t_Mo_end_66 := dk_go 3 a_Mo_end_63 rfl
theorem a_Mo_end_69 : dk_at b_Mo_end 69 t_Mo_end_69 := dk_go 3 a_Mo_end_66 rfl
theorem a_Mo_end_70 : dk_at b_Mo_end 70 t_Mo_end_70 := dk_go 1 a_Mo_end_69 rfl
theorem a_Mo_end_71 : dk_at b_Mo_end 71 t_Mo_end_71 := dk_go 1 a_Mo_end_70 rfl
theorem a_Mo_end_74 : dk_at b_Mo_end 74 t_Mo_end_74 := dk_go 3 a_Mo_end_71 rfl
theorem a_Mo_end_75 : dk_at b_Mo_end 75 t_Mo_end_75 := dk_go 1 a_Mo_end_74 rfl
theorem a_Mo_end_78 : dk_at b_Mo_end 78 t_Mo_end_78 := dk_go 3 a_Mo_end_75 rfl
theorem a_Mo_end_79 : dk_at b_Mo_end 79 t_Mo_end_79 := dk_go 1 a_Mo_end_78 rfl
theorem a_Mo_end_80 : dk_at b_Mo_end 80 t_Mo_end_80 := dk_go 1 a_Mo_end_79 rfl
theorem a_Mo_end_81 : dk_at b_Mo_end 81 t_Mo_end_81 := dk_go 1 a_Mo_end_80 rfl
theorem a_Mo_end_84 : dk_at b_Mo_end 84 t_Mo_end_84 := dk_go 3 a_Mo_end_81 rfl
theorem a_Mo_end_85 : dk_at b_Mo_end 85 t_Mo_end_85 := dk_go 1 a_Mo_end_84 rfl
theorem a_Mo_end_86 : dk_at b_Mo_end 86 t_Mo_end_86 := dk_go 1 a_Mo_end_85 rfl
theorem a_Mo_end_89 : dk_at b_Mo_end 89 t_Mo_end_89 := dk_go 3 a_Mo_end_86 rfl
theorem a_Mo_end_90 : dk_at b_Mo_end 90 t_Mo_end_90 := dk_go 1 a_Mo_end_89 rfl
theorem a_Mo_end_93 : dk_at b_Mo_end 93 t_Mo_end_93 := dk_go 3 a_Mo_end_90 rfl
theorem a_Mo_end_94 : dk_at b_Mo_end 94 t_Mo_end_94 := dk_go 1 a_Mo_end_93 rfl
theorem a_Mo_end_95 : dk_at b_Mo_end 95 t_Mo_end_95 := dk_go 1 a_Mo_end_94 rfl
theorem a_Mo_end_97 : dk_at b_Mo_end 97 t_Mo_end_97 := dk_go 2 a_Mo_end_95 rfl
theorem a_Mo_end_99 : dk_at b_Mo_end 99 t_Mo_end_99 := dk_go 2 a_Mo_end_97 rfl
theorem a_Mo_end_100 : dk_at b_Mo_end 100 t_Mo_end_100 := dk_go 1 a_Mo_end_99 rfl
theorem a_Mo_end_103 : dk_at b_Mo_end 103 t_Mo_end_103 := dk_go 3 a_Mo_end_100 rfl
theorem a_Mo_end_104 : dk_at b_Mo_end 104 t_Mo_end_104 := dk_go 1 a_Mo_end_103 rfl
theorem a_Mo_end_105 : dk_at b_Mo_end 105 t_Mo_end_105 := dk_go 1 a_Mo_end_104 rfl
theorem a_Mo_end_108 : dk_at b_Mo_end 108 t_Mo_end_108 := dk_go 3 a_Mo_end_105 rfl
theorem a_Mo_end_109 : dk_at b_Mo_end 109 t_Mo_end_109 := dk_go 1 a_Mo_end_108 rfl
theorem a_Mo_end_112 : dk_at b_Mo_end 112 t_Mo_end_112 := dk_go 3 a_Mo_end_109 rfl
theorem a_Mo_end_113 : dk_at b_Mo_end 113 t_Mo_end_113 := dk_go 1 a_Mo_end_112 rfl
theorem a_Mo_end_116 : dk_at b_Mo_end 116 t_Mo_end_116 := dk_go 3 a_Mo_end_113 rfl
theorem a_Mo_end_118 : dk_at b_Mo_end 118 t_Mo_end_118 := dk_go 2 a_Mo_end_116 rfl
theorem a_Mo_end_119 : dk_at b_Mo_end 119 t_Mo_end_119 := dk_go 1 a_Mo_end_118 rfl
theorem a_Mo_end_122 : dk_at b_Mo_end 122 t_Mo_end_122 := dk_go 3 a_Mo_end_119 rfl
theorem a_Mo_end_125 : dk_at b_Mo_end 125 t_Mo_end_125 := dk_go 3 a_Mo_end_122 rfl
theorem a_Mo_end_126 : dk_at b_Mo_end 126 t_Mo_end_126 := dk_go 1 a_Mo_end_125 rfl
theorem a_Mo_end_129 : dk_at b_Mo_end 129 t_Mo_end_129 := dk_go 3 a_Mo_end_126 rfl
theorem a_Mo_end_130 : dk_at b_Mo_end 130 t_Mo_end_130 := dk_go 1 a_Mo_end_129 rfl
theorem a_Mo_end_133 : dk_at b_Mo_end 133 t_Mo_end_133 := dk_go 3 a_Mo_end_130 rfl
theorem a_Mo_end_135 : dk_at b_Mo_end 135 t_Mo_end_135 := dk_go 2 a_Mo_end_133 rfl
theorem a_Mo_end_136 : dk_at b_Mo_end 136 t_Mo_end_136 := dk_go 1 a_Mo_end_135 rfl
theorem a_Mo_end_139 : dk_at b_Mo_end 139 t_Mo_end_139 := dk_go 3 a_Mo_end_136 rfl
theorem a_Mo_end_141 : dk_at b_Mo_end 141 t_Mo_end_141 := dk_go 2 a_Mo_end_139 rfl
theorem a_Mo_end_144 : dk_at b_Mo_end 144 t_Mo_end_144 := dk_go 3 a_Mo_end_141 rfl
theorem a_Mo_end_147 : dk_at b_Mo_end 147 t_Mo_end_147 := dk_go 3 a_Mo_end_144 rfl
theorem a_Mo_end_148 : dk_at b_Mo_end 148 t_Mo_end_148 := dk_go 1 a_Mo_end_147 rfl
theorem a_Mo_end_149 : dk_at b_Mo_end 149 t_Mo_end_149 := dk_go 1 a_Mo_end_148 rfl
theorem a_Mo_end_152 : dk_at b_Mo_end 152 t_Mo_end_152 := dk_go 3 a_Mo_end_149 rfl
theorem a_Mo_end_153 : dk_at b_Mo_end 153 t_Mo_end_153 := dk_go 1 a_Mo_end_152 rfl
theorem a_Mo_end_156 : dk_at b_Mo_end 156 t_Mo_end_156 := dk_go 3 a_Mo_end_153 rfl
theorem a_Mo_end_159 : dk_at b_Mo_end 159 t_Mo_end_159 := dk_go 3 a_Mo_end_156 rfl
theorem a_Mo_end_162 : dk_at b_Mo_end 162 t_Mo_end_162 := dk_go 3 a_Mo_end_159 rfl
theorem a_Mo_end_163 : dk_at b_Mo_end 163 t_Mo_end_163 := dk_go 1 a_Mo_end_162 rfl
theorem a_Mo_end_166 : dk_at b_Mo_end 166 t_Mo_end_166 := dk_go 3 a_Mo_end_163 rfl
theorem a_Mo_end_169 : dk_at b_Mo_end 169 t_Mo_end_169 := dk_go 3 a_Mo_end_166 rfl
theorem a_Mo_end_171 : dk_at b_Mo_end 171 t_Mo_end_171 := dk_go 2 a_Mo_end_169 rfl
theorem a_Mo_end_172 : dk_at b_Mo_end 172 t_Mo_end_172 := dk_go 1 a_Mo_end_171 rfl
theorem a_Mo_end_173 : dk_at b_Mo_end 173 t_Mo_end_173 := dk_go 1 a_Mo_end_172 rfl
theorem a_Mo_end_176 : dk_at b_Mo_end 176 t_Mo_end_176 := dk_go 3 a_Mo_end_173 rfl
theorem a_Mo_end_178 : dk_at b_Mo_end 178 t_Mo_end_178 := dk_go 2 a_Mo_end_176 rfl
theorem a_Mo_end_181 : dk_at b_Mo_end 181 t_Mo_end_181 := dk_go 3 a_Mo_end_178 rfl
theorem a_Mo_end_182 : dk_at b_Mo_end 182 t_Mo_end_182 := dk_go 1 a_Mo_end_181 rfl
theorem a_Mo_end_183 : dk_at b_Mo_end 183 t_Mo_end_183 := dk_go 1 a_Mo_end_182 rfl
theorem a_Mo_end_186 : dk_at b_Mo_end 186 t_Mo_end_186 := dk_go 3 a_Mo_end_183 rfl
theorem a_Mo_end_187 : dk_at b_Mo_end 187 t_Mo_end_187 := dk_go 1 a_Mo_end_186 rfl
theorem a_Mo_end_190 : dk_at b_Mo_end 190 t_Mo_end_190 := dk_go 3 a_Mo_end_187 rfl
theorem a_Mo_end_191 : dk_at b_Mo_end 191 t_Mo_end_191 := dk_go 1 a_Mo_end_190 rfl
theorem a_Mo_end_193 : dk_at b_Mo_end 193 t_Mo_end_193 := dk_go 2 a_Mo_end_191 rfl
theorem a_Mo_end_195 : dk_at b_Mo_end 195 t_Mo_end_195 := dk_go 2 a_Mo_end_193 rfl
theorem a_Mo_end_197 : dk_at b_Mo_end 197 t_Mo_end_197 := dk_go 2 a_Mo_end_195 rfl
theorem a_Mo_end_200 : dk_at b_Mo_end 200 t_Mo_end_200 := dk_go 3 a_Mo_end_197 rfl
theorem a_Mo_end_201 : dk_at b_Mo_end 201 t_Mo_end_201 := dk_go 1 a_Mo_end_200 rfl
theorem a_Mo_end_204 : dk_at b_Mo_end 204 t_Mo_end_204 := dk_go 3 a_Mo_end_201 rfl
theorem a_Mo_end_206 : dk_at b_Mo_end 206 t_Mo_end_206 := dk_go 2 a_Mo_end_204 rfl
theorem a_Mo_end_207 : dk_at b_Mo_end 207 t_Mo_end_207 := dk_go 1 a_Mo_end_206 rfl
theorem a_Mo_end_208 : dk_at b_Mo_end 208 t_Mo_end_208 := dk_go 1 a_Mo_end_207 rfl
theorem a_Mo_end_209 : dk_at b_Mo_end 209 t_Mo_end_209 := dk_go 1 a_Mo_end_208 rfl
theorem a_Mo_end_212 : dk_at b_Mo_end 212 t_Mo_end_212 := dk_go 3 a_Mo_end_209 rfl
theorem a_Mo_end_214 : dk_at b_Mo_end 214 t_Mo_end_214 := dk_go 2 a_Mo_end_212 rfl
theorem a_Mo_end_215 : dk_at b_Mo_end 215 t_Mo_end_215 := dk_go 1 a_Mo_end_214 rfl
theorem a_Mo_end_216 : dk_at b_Mo_end 216 t_Mo_end_216 := dk_go 1 a_Mo_end_215 rfl
theorem a_Mo_end_219 : dk_at b_Mo_end 219 t_Mo_end_219 := dk_go 3 a_Mo_end_216 rfl
theorem a_Mo_end_222 : dk_at b_Mo_end 222 t_Mo_end_222 := dk_go 3 a_Mo_end_219 rfl
theorem a_Mo_end_224 : dk_at b_Mo_end 224 t_Mo_end_224 := dk_go 2 a_Mo_end_222 rfl
theorem a_Mo_end_227 : dk_at b_Mo_end 227 t_Mo_end_227 := dk_go 3 a_Mo_end_224 rfl
theorem a_Mo_end_229 : dk_at b_Mo_end 229 t_Mo_end_229 := dk_go 2 a_Mo_end_227 rfl
theorem a_Mo_end_230 : dk_at b_Mo_end 230 t_Mo_end_230 := dk_go 1 a_Mo_end_229 rfl
theorem a_Mo_end_231 : dk_at b_Mo_end 231 t_Mo_end_231 := dk_go 1 a_Mo_end_230 rfl
theorem a_Mo_end_234 : dk_at b_Mo_end 234 t_Mo_end_234 := dk_go 3 a_Mo_end_231 rfl
theorem a_Mo_end_236 : dk_at b_Mo_end 236 t_Mo_end_236 := dk_go 2 a_Mo_end_234 rfl
theorem d_Mo_end_0 : decode b_Mo_end 0 = .ok (.iload_n 1, 1) := dk_0 a_Mo_end_0 (dko_27 _)
theorem d_Mo_end_1 : decode b_Mo_end 1 = .ok (.ifCond .lt 31, 3) := dk_S2 a_Mo_end_1 (dko_155 _) (by decide +kernel)
theorem d_Mo_end_4 : decode b_Mo_end 4 = .ok (.iload_n 1, 1) := dk_0 a_Mo_end_4 (dko_27 _)
theorem d_Mo_end_5 : decode b_Mo_end 5 = .ok (.iconst 2, 1) := dk_0 a_Mo_end_5 (dko_5 _)
theorem d_Mo_end_6 : decode b_Mo_end 6 = .ok (.if_icmp .gt 26, 3) := dk_S2 a_Mo_end_6 (dko_163 _) (by decide +kernel)
theorem d_Mo_end_9 : decode b_Mo_end 9 = .ok (.iload_n 2, 1) := dk_0 a_Mo_end_9 (dko_28 _)
theorem d_Mo_end_10 : decode b_Mo_end 10 = .ok (.ifCond .lt 22, 3) := dk_S2 a_Mo_end_10 (dko_155 _) (by decide +kernel)
theorem d_Mo_end_13 : decode b_Mo_end 13 = .ok (.iload_n 2, 1) := dk_0 a_Mo_end_13 (dko_28 _)
theorem d_Mo_end_14 : decode b_Mo_end 14 = .ok (.sipush 4000, 3) := dk_S2 a_Mo_end_14 (dko_17 _) (by decide +kernel)
theorem d_Mo_end_17 : decode b_Mo_end 17 = .ok (.if_icmp .gt 15, 3) := dk_S2 a_Mo_end_17 (dko_163 _) (by decide +kernel)
theorem d_Mo_end_20 : decode b_Mo_end 20 = .ok (.iload_n 2, 1) := dk_0 a_Mo_end_20 (dko_28 _)
theorem d_Mo_end_21 : decode b_Mo_end 21 = .ok (.aload_n 0, 1) := dk_0 a_Mo_end_21 (dko_42 _)
theorem d_Mo_end_22 : decode b_Mo_end 22 = .ok (.getfield 212, 3) := dk_U2 a_Mo_end_22 (dko_180 _) rfl
theorem d_Mo_end_25 : decode b_Mo_end 25 = .ok (.if_icmp .gt 7, 3) := dk_S2 a_Mo_end_25 (dko_163 _) (by decide +kernel)
theorem d_Mo_end_28 : decode b_Mo_end 28 = .ok (.iconst 1, 1) := dk_0 a_Mo_end_28 (dko_4 _)
theorem d_Mo_end_29 : decode b_Mo_end 29 = .ok (.goto 4, 3) := dk_S2 a_Mo_end_29 (dko_167 _) (by decide +kernel)
theorem d_Mo_end_32 : decode b_Mo_end 32 = .ok (.iconst 0, 1) := dk_0 a_Mo_end_32 (dko_3 _)
theorem d_Mo_end_33 : decode b_Mo_end 33 = .ok (.istore_n 3, 1) := dk_0 a_Mo_end_33 (dko_62 _)
theorem d_Mo_end_34 : decode b_Mo_end 34 = .ok (.iconst 0, 1) := dk_0 a_Mo_end_34 (dko_3 _)
theorem d_Mo_end_35 : decode b_Mo_end 35 = .ok (.istore 4, 2) := dk_U1 a_Mo_end_35 (dko_54 _) rfl
theorem d_Mo_end_37 : decode b_Mo_end 37 = .ok (.iload 4, 2) := dk_U1 a_Mo_end_37 (dko_21 _) rfl
theorem d_Mo_end_39 : decode b_Mo_end 39 = .ok (.iload_n 2, 1) := dk_0 a_Mo_end_39 (dko_28 _)
theorem d_Mo_end_40 : decode b_Mo_end 40 = .ok (.if_icmp .ge 29, 3) := dk_S2 a_Mo_end_40 (dko_162 _) (by decide +kernel)
theorem d_Mo_end_43 : decode b_Mo_end 43 = .ok (.iload_n 3, 1) := dk_0 a_Mo_end_43 (dko_29 _)
theorem d_Mo_end_44 : decode b_Mo_end 44 = .ok (.ifCond .eq 25, 3) := dk_S2 a_Mo_end_44 (dko_153 _) (by decide +kernel)
theorem d_Mo_end_47 : decode b_Mo_end 47 = .ok (.aload_n 0, 1) := dk_0 a_Mo_end_47 (dko_42 _)
theorem d_Mo_end_48 : decode b_Mo_end 48 = .ok (.getfield 9, 3) := dk_U2 a_Mo_end_48 (dko_180 _) rfl
theorem d_Mo_end_51 : decode b_Mo_end 51 = .ok (.iload 4, 2) := dk_U1 a_Mo_end_51 (dko_21 _) rfl
theorem d_Mo_end_53 : decode b_Mo_end 53 = .ok (.baload, 1) := dk_0 a_Mo_end_53 (dko_51 _)
theorem d_Mo_end_54 : decode b_Mo_end 54 = .ok (.ifCond .le 7, 3) := dk_S2 a_Mo_end_54 (dko_158 _) (by decide +kernel)
theorem d_Mo_end_57 : decode b_Mo_end 57 = .ok (.iconst 1, 1) := dk_0 a_Mo_end_57 (dko_4 _)
theorem d_Mo_end_58 : decode b_Mo_end 58 = .ok (.goto 4, 3) := dk_S2 a_Mo_end_58 (dko_167 _) (by decide +kernel)
theorem d_Mo_end_61 : decode b_Mo_end 61 = .ok (.iconst 0, 1) := dk_0 a_Mo_end_61 (dko_3 _)
theorem d_Mo_end_62 : decode b_Mo_end 62 = .ok (.istore_n 3, 1) := dk_0 a_Mo_end_62 (dko_62 _)
theorem d_Mo_end_63 : decode b_Mo_end 63 = .ok (.iinc 4 1, 3) := dk_US a_Mo_end_63 (dko_132 _) (by decide +kernel)
theorem d_Mo_end_66 : decode b_Mo_end 66 = .ok (.goto (-29), 3) := dk_S2 a_Mo_end_66 (dko_167 _) (by decide +kernel)
theorem d_Mo_end_69 : decode b_Mo_end 69 = .ok (.aload_n 0, 1) := dk_0 a_Mo_end_69 (dko_42 _)
theorem d_Mo_end_70 : decode b_Mo_end 70 = .ok (.iconst 0, 1) := dk_0 a_Mo_end_70 (dko_3 _)
theorem d_Mo_end_71 : decode b_Mo_end 71 = .ok (.putfield 212, 3) := dk_U2 a_Mo_end_71 (dko_181 _) rfl
theorem d_Mo_end_74 : decode b_Mo_end 74 = .ok (.iload_n 3, 1) := dk_0 a_Mo_end_74 (dko_29 _)
theorem d_Mo_end_75 : decode b_Mo_end 75 = .ok (.ifCond .ne 5, 3) := dk_S2 a_Mo_end_75 (dko_154 _) (by decide +kernel)
theorem d_Mo_end_78 : decode b_Mo_end 78 = .ok (.iconst (-1), 1) := dk_0 a_Mo_end_78 (dko_2 _)
theorem d_Mo_end_79 : decode b_Mo_end 79 = .ok (.ireturn, 1) := dk_0 a_Mo_end_79 (dko_172 _)
theorem d_Mo_end_80 : decode b_Mo_end 80 = .ok (.iload_n 1, 1) := dk_0 a_Mo_end_80 (dko_27 _)
theorem d_Mo_end_81 : decode b_Mo_end 81 = .ok (.ifCond .ne 13, 3) := dk_S2 a_Mo_end_81 (dko_154 _) (by decide +kernel)
theorem d_Mo_end_84 : decode b_Mo_end 84 = .ok (.aload_n 0, 1) := dk_0 a_Mo_end_84 (dko_42 _)
theorem d_Mo_end_85 : decode b_Mo_end 85 = .ok (.iload_n 2, 1) := dk_0 a_Mo_end_85 (dko_28 _)
theorem d_Mo_end_86 : decode b_Mo_end 86 = .ok (.putfield 215, 3) := dk_U2 a_Mo_end_86 (dko_181 _) rfl
theorem d_Mo_end_89 : decode b_Mo_end 89 = .ok (.aload_n 0, 1) := dk_0 a_Mo_end_89 (dko_42 _)
theorem d_Mo_end_90 : decode b_Mo_end 90 = .ok (.invokevirtual 218, 3) := dk_U2 a_Mo_end_90 (dko_182 _) rfl
theorem d_Mo_end_93 : decode b_Mo_end 93 = .ok (.ireturn, 1) := dk_0 a_Mo_end_93 (dko_172 _)
theorem d_Mo_end_94 : decode b_Mo_end 94 = .ok (.iconst 0, 1) := dk_0 a_Mo_end_94 (dko_3 _)
theorem d_Mo_end_95 : decode b_Mo_end 95 = .ok (.istore 4, 2) := dk_U1 a_Mo_end_95 (dko_54 _) rfl
theorem d_Mo_end_97 : decode b_Mo_end 97 = .ok (.iload 4, 2) := dk_U1 a_Mo_end_97 (dko_21 _) rfl
theorem d_Mo_end_99 : decode b_Mo_end 99 = .ok (.iload_n 2, 1) := dk_0 a_Mo_end_99 (dko_28 _)
theorem d_Mo_end_100 : decode b_Mo_end 100 = .ok (.if_icmp .ge 47, 3) := dk_S2 a_Mo_end_100 (dko_162 _) (by decide +kernel)
theorem d_Mo_end_103 : decode b_Mo_end 103 = .ok (.iload_n 1, 1) := dk_0 a_Mo_end_103 (dko_27 _)
theorem d_Mo_end_104 : decode b_Mo_end 104 = .ok (.iconst 1, 1) := dk_0 a_Mo_end_104 (dko_4 _)
theorem d_Mo_end_105 : decode b_Mo_end 105 = .ok (.if_icmp .ne 20, 3) := dk_S2 a_Mo_end_105 (dko_160 _) (by decide +kernel)
theorem d_Mo_end_108 : decode b_Mo_end 108 = .ok (.aload_n 0, 1) := dk_0 a_Mo_end_108 (dko_42 _)
theorem d_Mo_end_109 : decode b_Mo_end 109 = .ok (.getfield 23, 3) := dk_U2 a_Mo_end_109 (dko_180 _) rfl
theorem d_Mo_end_112 : decode b_Mo_end 112 = .ok (.aload_n 0, 1) := dk_0 a_Mo_end_112 (dko_42 _)
theorem d_Mo_end_113 : decode b_Mo_end 113 = .ok (.getfield 9, 3) := dk_U2 a_Mo_end_113 (dko_180 _) rfl
theorem d_Mo_end_116 : decode b_Mo_end 116 = .ok (.iload 4, 2) := dk_U1 a_Mo_end_116 (dko_21 _) rfl
theorem d_Mo_end_118 : decode b_Mo_end 118 = .ok (.baload, 1) := dk_0 a_Mo_end_118 (dko_51 _)
theorem d_Mo_end_119 : decode b_Mo_end 119 = .ok (.invokevirtual 222, 3) := dk_U2 a_Mo_end_119 (dko_182 _) rfl
theorem d_Mo_end_122 : decode b_Mo_end 122 = .ok (.goto 17, 3) := dk_S2 a_Mo_end_122 (dko_167 _) (by decide +kernel)
theorem d_Mo_end_125 : decode b_Mo_end 125 = .ok (.aload_n 0, 1) := dk_0 a_Mo_end_125 (dko_42 _)
theorem d_Mo_end_126 : decode b_Mo_end 126 = .ok (.getfield 16, 3) := dk_U2 a_Mo_end_126 (dko_180 _) rfl
theorem d_Mo_end_129 : decode b_Mo_end 129 = .ok (.aload_n 0, 1) := dk_0 a_Mo_end_129 (dko_42 _)
theorem d_Mo_end_130 : decode b_Mo_end 130 = .ok (.getfield 9, 3) := dk_U2 a_Mo_end_130 (dko_180 _) rfl
theorem d_Mo_end_133 : decode b_Mo_end 133 = .ok (.iload 4, 2) := dk_U1 a_Mo_end_133 (dko_21 _) rfl
theorem d_Mo_end_135 : decode b_Mo_end 135 = .ok (.baload, 1) := dk_0 a_Mo_end_135 (dko_51 _)
theorem d_Mo_end_136 : decode b_Mo_end 136 = .ok (.invokevirtual 226, 3) := dk_U2 a_Mo_end_136 (dko_182 _) rfl
theorem d_Mo_end_139 : decode b_Mo_end 139 = .ok (.istore 5, 2) := dk_U1 a_Mo_end_139 (dko_54 _) rfl
theorem d_Mo_end_141 : decode b_Mo_end 141 = .ok (.iinc 4 1, 3) := dk_US a_Mo_end_141 (dko_132 _) (by decide +kernel)
theorem d_Mo_end_144 : decode b_Mo_end 144 = .ok (.goto (-47), 3) := dk_S2 a_Mo_end_144 (dko_167 _) (by decide +kernel)
theorem d_Mo_end_147 : decode b_Mo_end 147 = .ok (.iload_n 1, 1) := dk_0 a_Mo_end_147 (dko_27 _)
theorem d_Mo_end_148 : decode b_Mo_end 148 = .ok (.iconst 1, 1) := dk_0 a_Mo_end_148 (dko_4 _)
theorem d_Mo_end_149 : decode b_Mo_end 149 = .ok (.if_icmp .ne 13, 3) := dk_S2 a_Mo_end_149 (dko_160 _) (by decide +kernel)
theorem d_Mo_end_152 : decode b_Mo_end 152 = .ok (.aload_n 0, 1) := dk_0 a_Mo_end_152 (dko_42 _)
theorem d_Mo_end_153 : decode b_Mo_end 153 = .ok (.getfield 23, 3) := dk_U2 a_Mo_end_153 (dko_180 _) rfl
theorem d_Mo_end_156 : decode b_Mo_end 156 = .ok (.invokevirtual 227, 3) := dk_U2 a_Mo_end_156 (dko_182 _) rfl
theorem d_Mo_end_159 : decode b_Mo_end 159 = .ok (.goto 10, 3) := dk_S2 a_Mo_end_159 (dko_167 _) (by decide +kernel)
theorem d_Mo_end_162 : decode b_Mo_end 162 = .ok (.aload_n 0, 1) := dk_0 a_Mo_end_162 (dko_42 _)
theorem d_Mo_end_163 : decode b_Mo_end 163 = .ok (.getfield 16, 3) := dk_U2 a_Mo_end_163 (dko_180 _) rfl
theorem d_Mo_end_166 : decode b_Mo_end 166 = .ok (.invokevirtual 230, 3) := dk_U2 a_Mo_end_166 (dko_182 _) rfl
theorem d_Mo_end_169 : decode b_Mo_end 169 = .ok (.istore 4, 2) := dk_U1 a_Mo_end_169 (dko_54 _) rfl
theorem d_Mo_end_171 : decode b_Mo_end 171 = .ok (.iload_n 1, 1) := dk_0 a_Mo_end_171 (dko_27 _)
theorem d_Mo_end_172 : decode b_Mo_end 172 = .ok (.iconst 2, 1) := dk_0 a_Mo_end_172 (dko_5 _)
theorem d_Mo_end_173 : decode b_Mo_end 173 = .ok (.if_icmp .ne 49, 3) := dk_S2 a_Mo_end_173 (dko_160 _) (by decide +kernel)
theorem d_Mo_end_176 : decode b_Mo_end 176 = .ok (.iload 4, 2) := dk_U1 a_Mo_end_176 (dko_21 _) rfl
theorem d_Mo_end_178 : decode b_Mo_end 178 = .ok (.ifCond .lt 44, 3) := dk_S2 a_Mo_end_178 (dko_155 _) (by decide +kernel)
theorem d_Mo_end_181 : decode b_Mo_end 181 = .ok (.aload_n 0, 1) := dk_0 a_Mo_end_181 (dko_42 _)
theorem d_Mo_end_182 : decode b_Mo_end 182 = .ok (.iconst 4, 1) := dk_0 a_Mo_end_182 (dko_7 _)
theorem d_Mo_end_183 : decode b_Mo_end 183 = .ok (.putfield 162, 3) := dk_U2 a_Mo_end_183 (dko_181 _) rfl
theorem d_Mo_end_186 : decode b_Mo_end 186 = .ok (.aload_n 0, 1) := dk_0 a_Mo_end_186 (dko_42 _)
theorem d_Mo_end_187 : decode b_Mo_end 187 = .ok (.invokevirtual 231, 3) := dk_U2 a_Mo_end_187 (dko_182 _) rfl
theorem d_Mo_end_190 : decode b_Mo_end 190 = .ok (.iconst 0, 1) := dk_0 a_Mo_end_190 (dko_3 _)
theorem d_Mo_end_191 : decode b_Mo_end 191 = .ok (.istore 5, 2) := dk_U1 a_Mo_end_191 (dko_54 _) rfl
theorem d_Mo_end_193 : decode b_Mo_end 193 = .ok (.iload 5, 2) := dk_U1 a_Mo_end_193 (dko_21 _) rfl
theorem d_Mo_end_195 : decode b_Mo_end 195 = .ok (.bipush 40, 2) := dk_S1 a_Mo_end_195 (dko_16 _) (by decide +kernel)
theorem d_Mo_end_197 : decode b_Mo_end 197 = .ok (.if_icmp .ge 25, 3) := dk_S2 a_Mo_end_197 (dko_162 _) (by decide +kernel)
theorem d_Mo_end_200 : decode b_Mo_end 200 = .ok (.aload_n 0, 1) := dk_0 a_Mo_end_200 (dko_42 _)
theorem d_Mo_end_201 : decode b_Mo_end 201 = .ok (.getfield 144, 3) := dk_U2 a_Mo_end_201 (dko_180 _) rfl
theorem d_Mo_end_204 : decode b_Mo_end 204 = .ok (.iload 5, 2) := dk_U1 a_Mo_end_204 (dko_21 _) rfl
theorem d_Mo_end_206 : decode b_Mo_end 206 = .ok (.iconst (-1), 1) := dk_0 a_Mo_end_206 (dko_2 _)
theorem d_Mo_end_207 : decode b_Mo_end 207 = .ok (.iastore, 1) := dk_0 a_Mo_end_207 (dko_79 _)
theorem d_Mo_end_208 : decode b_Mo_end 208 = .ok (.aload_n 0, 1) := dk_0 a_Mo_end_208 (dko_42 _)
theorem d_Mo_end_209 : decode b_Mo_end 209 = .ok (.getfield 159, 3) := dk_U2 a_Mo_end_209 (dko_180 _) rfl
theorem d_Mo_end_212 : decode b_Mo_end 212 = .ok (.iload 5, 2) := dk_U1 a_Mo_end_212 (dko_21 _) rfl
theorem d_Mo_end_214 : decode b_Mo_end 214 = .ok (.lconst 0, 1) := dk_0 a_Mo_end_214 (dko_9 _)
theorem d_Mo_end_215 : decode b_Mo_end 215 = .ok (.lastore, 1) := dk_0 a_Mo_end_215 (dko_80 _)
theorem d_Mo_end_216 : decode b_Mo_end 216 = .ok (.iinc 5 1, 3) := dk_US a_Mo_end_216 (dko_132 _) (by decide +kernel)
theorem d_Mo_end_219 : decode b_Mo_end 219 = .ok (.goto (-26), 3) := dk_S2 a_Mo_end_219 (dko_167 _) (by decide +kernel)
theorem d_Mo_end_222 : decode b_Mo_end 222 = .ok (.iload 4, 2) := dk_U1 a_Mo_end_222 (dko_21 _) rfl
theorem d_Mo_end_224 : decode b_Mo_end 224 = .ok (.ifCond .ge 10, 3) := dk_S2 a_Mo_end_224 (dko_156 _) (by decide +kernel)
theorem d_Mo_end_227 : decode b_Mo_end 227 = .ok (.iload 4, 2) := dk_U1 a_Mo_end_227 (dko_21 _) rfl
theorem d_Mo_end_229 : decode b_Mo_end 229 = .ok (.iconst 2, 1) := dk_0 a_Mo_end_229 (dko_5 _)
theorem d_Mo_end_230 : decode b_Mo_end 230 = .ok (.isub, 1) := dk_0 a_Mo_end_230 (dko_100 _)
theorem d_Mo_end_231 : decode b_Mo_end 231 = .ok (.goto 5, 3) := dk_S2 a_Mo_end_231 (dko_167 _) (by decide +kernel)
theorem d_Mo_end_234 : decode b_Mo_end 234 = .ok (.iload 4, 2) := dk_U1 a_Mo_end_234 (dko_21 _) rfl
theorem d_Mo_end_236 : decode b_Mo_end 236 = .ok (.ireturn, 1) := dk_0 a_Mo_end_236 (dko_172 _)
set_option maxHeartbeats 4000000 in
set_option maxRecDepth 100000 in
theorem ok_Mo_end (pc : Nat) : OpS mt mi_Mo_end pc (cs_Mo_end pc) := (os_n (os_n (os_n (os_n (os_n (os_n (os_l (so_iload_n d_Mo_end_0 rfl)) (os_n (os_l (so_iflt d_Mo_end_1 (by decide))) (os_l (so_iload_n d_Mo_end_4 rfl)))) (os_n (os_n (os_l (so_iconst d_Mo_end_5 (by decide))) (os_l (so_icgt d_Mo_end_6 (by decide)))) (os_n (os_l (so_iload_n d_Mo_end_9 rfl)) (os_l (so_iflt d_Mo_end_10 (by decide)))))) (os_n (os_n (os_n (os_l (so_iload_n d_Mo_end_13 rfl)) (os_l (so_sipush d_Mo_end_14 (by decide)))) (os_n (os_l (so_icgt d_Mo_end_17 (by decide))) (os_l (so_iload_n d_Mo_end_20 rfl)))) (os_n (os_n (os_l (so_aload_n d_Mo_end_21 rfl)) (os_l (so_get (C := R_Mo) (T := F_Mo) (N := 87) (j := 1) in_Mo rfl (by decide) mw_1795 d_Mo_end_22))) (os_n (os_l (so_icgt d_Mo_end_25 (by decide))) (os_l (so_iconst d_Mo_end_28 (by decide))))))) (os_n (os_n (os_n (os_l (so_goto d_Mo_end_29 (by decide))) (os_n (os_l (so_iconst d_Mo_end_32 (by decide))) (os_l (so_istore_n d_Mo_end_33 rfl (by decide))))) (os_n (os_n (os_l (so_iconst d_Mo_end_34 (by decide))) (os_l (so_istore d_Mo_end_35 (by decide)))) (os_n (os_l (so_iload d_Mo_end_37)) (os_l (so_iload_n d_Mo_end_39 rfl))))) (os_n (os_n (os_n (os_l (so_icge d_Mo_end_40 (by decide))) (os_l (so_iload_n d_Mo_end_43 rfl))) (os_n (os_l (so_ifeq d_Mo_end_44 (by decide))) (os_l (so_aload_n d_Mo_end_47 rfl)))) (os_n (os_n (os_l (so_get (C := R_Mo) (T := F_Mo) (N := 87) (j := 0) in_Mo rfl (by decide) mw_1794 d_Mo_end_48)) (os_l (so_iload d_Mo_end_51))) (os_n (os_l (so_baload d_Mo_end_53)) (os_l (so_ifle d_Mo_end_54 (by decide)))))))) (os_n (os_n (os_n (os_n (os_l (so_iconst d_Mo_end_57 (by decide))) (os_n (os_l (so_goto d_Mo_end_58 (by decide))) (os_l (so_iconst d_Mo_end_61 (by decide))))) (os_n (os_n (os_l (so_istore_n d_Mo_end_62 rfl (by decide))) (os_l (so_iinc d_Mo_end_63 (by decide) (by decide)))) (os_n (os_l (so_goto d_Mo_end_66 (by decide))) (os_l (so_aload_n d_Mo_end_69 rfl))))) (os_n (os_n (os_n (os_l (so_iconst d_Mo_end_70 (by decide))) (os_l (so_putI (C := R_Mo) (T := F_Mo) (N := 87) (j := 1) in_Mo t_Mo_ok n_Mo rfl (by decide) mw_1795 rfl (by decide +kernel) d_Mo_end_71))) (os_n (os_l (so_iload_n d_Mo_end_74 rfl)) (os_l (so_ifne d_Mo_end_75 (by decide))))) (os_n (os_n (os_l (so_iconst d_Mo_end_78 (by decide))) (os_l (so_ireturn rfl d_Mo_end_79))) (os_n (os_l (so_iload_n d_Mo_end_80 rfl)) (os_l (so_ifne d_Mo_end_81 (by decide))))))) (os_n (os_n (os_n (os_n (os_l (so_aload_n d_Mo_end_84 rfl)) (os_l (so_iload_n d_Mo_end_85 rfl))) (os_n (os_l (so_putI (C := R_Mo) (T := F_Mo) (N := 87) (j := 22) in_Mo t_Mo_ok n_Mo rfl (by decide) mw_1816 rfl (by decide +kernel) d_Mo_end_86)) (os_l (so_aload_n d_Mo_end_89 rfl)))) (os_n (os_n (os_l (so_callV (iv := mi_Mo_readPlant) rfl rfl rfl mw_2064 mw_2066 sl_89 mw_18 mw_2067 ⟨by decide +kernel, by decide +kernel, by decide +kernel⟩ (by decide) d_Mo_end_90)) (os_l (so_ireturn rfl d_Mo_end_93))) (os_n (os_l (so_iconst d_Mo_end_94 (by decide))) (os_l (so_istore d_Mo_end_95 (by decide)))))) (os_n (os_n (os_n (os_l (so_iload d_Mo_end_97)) (os_l (so_iload_n d_Mo_end_99 rfl))) (os_n (os_l (so_icge d_Mo_end_100 (by decide))) (os_l (so_iload_n d_Mo_end_103 rfl)))) (os_n (os_n (os_l (so_iconst d_Mo_end_104 (by decide))) (os_l (so_icne d_Mo_end_105 (by decide)))) (os_n (os_l (so_aload_n d_Mo_end_108 rfl)) (os_l (so_get (C := R_Mo) (T := F_Mo) (N := 87) (j := 3) in_Mo rfl (by decide) mw_1797 d_Mo_end_109)))))))) (os_n (os_n (os_n (os_n (os_n (os_l (so_aload_n d_Mo_end_112 rfl)) (os_n (os_l (so_get (C := R_Mo) (T := F_Mo) (N := 87) (j := 0) in_Mo rfl (by decide) mw_1794 d_Mo_end_113)) (os_l (so_iload d_Mo_end_116)))) (os_n (os_n (os_l (so_baload d_Mo_end_118)) (os_l (so_callV (iv := mi_Mr_unit) rfl rfl rfl mw_2107 mw_2108 mw_2109 mw_20 mw_2110 ⟨by decide +kernel, by decide +kernel, by decide +kernel⟩ (by decide) d_Mo_end_119))) (os_n (os_l (so_goto d_Mo_end_122 (by decide))) (os_l (so_aload_n d_Mo_end_125 rfl))))) (os_n (os_n (os_n (os_l (so_get (C := R_Mo) (T := F_Mo) (N := 87) (j := 2) in_Mo rfl (by decide) mw_1796 d_Mo_end_126)) (os_l (so_aload_n d_Mo_end_129 rfl))) (os_n (os_l (so_get (C := R_Mo) (T := F_Mo) (N := 87) (j := 0) in_Mo rfl (by decide) mw_1794 d_Mo_end_130)) (os_l (so_iload d_Mo_end_133)))) (os_n (os_n (os_l (so_baload d_Mo_end_135)) (os_l (so_callV (iv := mi_Tx_unit) rfl rfl rfl mw_2111 mw_2112 mw_2113 mw_19 mw_2114 ⟨by decide +kernel, by decide +kernel, by decide +kernel⟩ (by decide) d_Mo_end_136))) (os_n (os_l (so_istore d_Mo_end_139 (by decide))) (os_l (so_iinc d_Mo_end_141 (by decide) (by decide))))))) (os_n (os_n (os_n (os_n (os_l (so_goto d_Mo_end_144 (by decide))) (os_l (so_iload_n d_Mo_end_147 rfl))) (os_n (os_l (so_iconst d_Mo_end_148 (by decide))) (os_l (so_icne d_Mo_end_149 (by decide))))) (os_n (os_n (os_l (so_aload_n d_Mo_end_152 rfl)) (os_l (so_get (C := R_Mo) (T := F_Mo) (N := 87) (j := 3) in_Mo rfl (by decide) mw_1797 d_Mo_end_153))) (os_n (os_l (so_callV (iv := mi_Mr_read) rfl rfl rfl mw_2115 mw_2116 mw_2117 mw_20 mw_2118 ⟨by decide +kernel, by decide +kernel, by decide +kernel⟩ (by decide) d_Mo_end_156)) (os_l (so_goto d_Mo_end_159 (by decide)))))) (os_n (os_n (os_n (os_l (so_aload_n d_Mo_end_162 rfl)) (os_l (so_get (C := R_Mo) (T := F_Mo) (N := 87) (j := 2) in_Mo rfl (by decide) mw_1796 d_Mo_end_163))) (os_n (os_l (so_callV (iv := mi_Tx_read) rfl rfl rfl mw_2174 mw_2175 mw_2176 mw_19 mw_2177 ⟨by decide +kernel, by decide +kernel, by decide +kernel⟩ (by decide) d_Mo_end_166)) (os_l (so_istore d_Mo_end_169 (by decide))))) (os_n (os_n (os_l (so_iload_n d_Mo_end_171 rfl)) (os_l (so_iconst d_Mo_end_172 (by decide)))) (os_n (os_l (so_icne d_Mo_end_173 (by decide))) (os_l (so_iload d_Mo_end_176))))))) (os_n (os_n (os_n (os_n (os_l (so_iflt d_Mo_end_178 (by decide))) (os_n (os_l (so_aload_n d_Mo_end_181 rfl)) (os_l (so_iconst d_Mo_end_182 (by decide))))) (os_n (os_n (os_l (so_putI (C := R_Mo) (T := F_Mo) (N := 87) (j := 59) in_Mo t_Mo_ok n_Mo rfl (by decide) mw_1853 rfl (by decide +kernel) d_Mo_end_183)) (os_l (so_aload_n d_Mo_end_186 rfl))) (os_n (os_l (so_callV (iv := mi_Mo_closeAll) rfl rfl rfl mw_2335 mw_2337 sl_139 mw_18 mw_2338 ⟨by decide +kernel, by decide +kernel, by decide +kernel⟩ (by decide) d_Mo_end_187)) (os_l (so_iconst d_Mo_end_190 (by decide)))))) (os_n (os_n (os_n (os_l (so_istore d_Mo_end_191 (by decide))) (os_l (so_iload d_Mo_end_193))) (os_n (os_l (so_bipush d_Mo_end_195 (by decide))) (os_l (so_icge d_Mo_end_197 (by decide))))) (os_n (os_n (os_l (so_aload_n d_Mo_end_200 rfl)) (os_l (so_get (C := R_Mo) (T := F_Mo) (N := 87) (j := 53) in_Mo rfl (by decide) mw_1847 d_Mo_end_201))) (os_n (os_l (so_iload d_Mo_end_204)) (os_l (so_iconst d_Mo_end_206 (by decide))))))) (os_n (os_n (os_n (os_n (os_l (so_iastore d_Mo_end_207)) (os_l (so_aload_n d_Mo_end_208 rfl))) (os_n (os_l (so_get (C := R_Mo) (T := F_Mo) (N := 87) (j := 58) in_Mo rfl (by decide) mw_1852 d_Mo_end_209)) (os_l (so_iload d_Mo_end_212)))) (os_n (os_n (os_l (so_lconst d_Mo_end_214 (by decide))) (os_l (so_lastore d_Mo_end_215))) (os_n (os_l (so_iinc d_Mo_end_216 (by decide) (by decide))) (os_l (so_goto d_Mo_end_219 (by decide)))))) (os_n (os_n (os_n (os_l (so_iload d_Mo_end_222)) (os_l (so_ifge d_Mo_end_224 (by decide)))) (os_n (os_l (so_iload d_Mo_end_227)) (os_l (so_iconst d_Mo_end_229 (by decide))))) (os_n (os_n (os_l (so_isub d_Mo_end_230)) (os_l (so_goto d_Mo_end_231 (by decide)))) (os_n (os_l (so_iload d_Mo_end_234)) (os_l (so_ireturn rfl d_Mo_end_236)))))))))
abbrev t_Mo_here_24 : List UInt8 := 172 :: []
abbrev t_Mo_here_23 : List UInt8 := 3 :: t_Mo_here_24
abbrev t_Mo_here_20 : List UInt8 := 167 :: 0 :: 4 :: t_Mo_here_23
abbrev t_Mo_here_19 : List UInt8 := 51 :: t_Mo_here_20
abbrev t_Mo_here_16 : List UInt8 := 180 :: 0 :: 234 :: t_Mo_here_19
abbrev t_Mo_here_15 : List UInt8 := 42 :: t_Mo_here_16
abbrev t_Mo_here_12 : List UInt8 := 180 :: 0 :: 9 :: t_Mo_here_15
abbrev t_Mo_here_11 : List UInt8 := 42 :: t_Mo_here_12
abbrev t_Mo_here_8 : List UInt8 := 162 :: 0 :: 15 :: t_Mo_here_11
abbrev t_Mo_here_5 : List UInt8 := 180 :: 0 :: 215 :: t_Mo_here_8
abbrev t_Mo_here_4 : List UInt8 := 42 :: t_Mo_here_5
abbrev t_Mo_here_1 : List UInt8 := 180 :: 0 :: 234 :: t_Mo_here_4
abbrev t_Mo_here_0 : List UInt8 := 42 :: t_Mo_here_1
theorem a_Mo_here_0 : dk_at b_Mo_here 0 t_Mo_here_0 := dk_start (by decide +kernel)
theorem a_Mo_here_1 : dk_at b_Mo_here 1 t_Mo_here_1 := dk_go 1 a_Mo_here_0 rfl
theorem a_Mo_here_4 : dk_at b_Mo_here 4 t_Mo_here_4 := dk_go 3 a_Mo_here_1 rfl
theorem a_Mo_here_5 : dk_at b_Mo_here 5 t_Mo_here_5 := dk_go 1 a_Mo_here_4 rfl
theorem a_Mo_here_8 : dk_at b_Mo_here 8 t_Mo_here_8 := dk_go 3 a_Mo_here_5 rfl
theorem a_Mo_here_11 : dk_at b_Mo_here 11 t_Mo_here_11 := dk_go 3 a_Mo_here_8 rfl
theorem a_Mo_here_12 : dk_at b_Mo_here 12 t_Mo_here_12 := dk_go 1 a_Mo_here_11 rfl
theorem a_Mo_here_15 : dk_at b_Mo_here 15 t_Mo_here_15 := dk_go 3 a_Mo_here_12 rfl
theorem a_Mo_here_16 : dk_at b_Mo_here 16 t_Mo_here_16 := dk_go 1 a_Mo_here_15 rfl
theorem a_Mo_here_19 : dk_at b_Mo_here 19 t_Mo_here_19 := dk_go 3 a_Mo_here_16 rfl
theorem a_Mo_here_20 : dk_at b_Mo_here 20 t_Mo_here_20 := dk_go 1 a_Mo_here_19 rfl
theorem a_Mo_here_23 : dk_at b_Mo_here 23 t_Mo_here_23 := dk_go 3 a_Mo_here_20 rfl
theorem a_Mo_here_24 : dk_at b_Mo_here 24 t_Mo_here_24 := dk_go 1 a_Mo_here_23 rfl
theorem d_Mo_here_0 : decode b_Mo_here 0 = .ok (.aload_n 0, 1) := dk_0 a_Mo_here_0 (dko_42 _)
theorem d_Mo_here_1 : decode b_Mo_here 1 = .ok (.getfield 234, 3) := dk_U2 a_Mo_here_1 (dko_180 _) rfl
theorem d_Mo_here_4 : decode b_Mo_here 4 = .ok (.aload_n 0, 1) := dk_0 a_Mo_here_4 (dko_42 _)
theorem d_Mo_here_5 : decode b_Mo_here 5 = .ok (.getfield 215, 3) := dk_U2 a_Mo_here_5 (dko_180 _) rfl
theorem d_Mo_here_8 : decode b_Mo_here 8 = .ok (.if_icmp .ge 15, 3) := dk_S2 a_Mo_here_8 (dko_162 _) (by decide +kernel)
theorem d_Mo_here_11 : decode b_Mo_here 11 = .ok (.aload_n 0, 1) := dk_0 a_Mo_here_11 (dko_42 _)
theorem d_Mo_here_12 : decode b_Mo_here 12 = .ok (.getfield 9, 3) := dk_U2 a_Mo_here_12 (dko_180 _) rfl
theorem d_Mo_here_15 : decode b_Mo_here 15 = .ok (.aload_n 0, 1) := dk_0 a_Mo_here_15 (dko_42 _)
theorem d_Mo_here_16 : decode b_Mo_here 16 = .ok (.getfield 234, 3) := dk_U2 a_Mo_here_16 (dko_180 _) rfl
theorem d_Mo_here_19 : decode b_Mo_here 19 = .ok (.baload, 1) := dk_0 a_Mo_here_19 (dko_51 _)
theorem d_Mo_here_20 : decode b_Mo_here 20 = .ok (.goto 4, 3) := dk_S2 a_Mo_here_20 (dko_167 _) (by decide +kernel)
theorem d_Mo_here_23 : decode b_Mo_here 23 = .ok (.iconst 0, 1) := dk_0 a_Mo_here_23 (dko_3 _)
theorem d_Mo_here_24 : decode b_Mo_here 24 = .ok (.ireturn, 1) := dk_0 a_Mo_here_24 (dko_172 _)
set_option maxHeartbeats 4000000 in
set_option maxRecDepth 100000 in
theorem ok_Mo_here (pc : Nat) : OpS mt mi_Mo_here pc (cs_Mo_here pc) := (os_n (os_n (os_n (os_l (so_aload_n d_Mo_here_0 rfl)) (os_n (os_l (so_get (C := R_Mo) (T := F_Mo) (N := 87) (j := 21) in_Mo rfl (by decide) mw_1815 d_Mo_here_1)) (os_l (so_aload_n d_Mo_here_4 rfl)))) (os_n (os_l (so_get (C := R_Mo) (T := F_Mo) (N := 87) (j := 22) in_Mo rfl (by decide) mw_1816 d_Mo_here_5)) (os_n (os_l (so_icge d_Mo_here_8 (by decide))) (os_l (so_aload_n d_Mo_here_11 rfl))))) (os_n (os_n (os_l (so_get (C := R_Mo) (T := F_Mo) (N := 87) (j := 0) in_Mo rfl (by decide) mw_1794 d_Mo_here_12)) (os_n (os_l (so_aload_n d_Mo_here_15 rfl)) (os_l (so_get (C := R_Mo) (T := F_Mo) (N := 87) (j := 21) in_Mo rfl (by decide) mw_1815 d_Mo_here_16)))) (os_n (os_n (os_l (so_baload d_Mo_here_19)) (os_l (so_goto d_Mo_here_20 (by decide)))) (os_n (os_l (so_iconst d_Mo_here_23 (by decide))) (os_l (so_ireturn rfl d_Mo_here_24))))))
abbrev t_Mo_over_42 : List UInt8 := 172 :: []
abbrev t_Mo_over_41 : List UInt8 := 4 :: t_Mo_over_42
abbrev t_Mo_over_38 : List UInt8 := 167 :: 255 :: 220 :: t_Mo_over_41
abbrev t_Mo_over_37 : List UInt8 := 66 :: t_Mo_over_38
abbrev t_Mo_over_36 : List UInt8 := 125 :: t_Mo_over_37
abbrev t_Mo_over_34 : List UInt8 := 16 :: 8 :: t_Mo_over_36
abbrev t_Mo_over_33 : List UInt8 := 33 :: t_Mo_over_34
abbrev t_Mo_over_30 : List UInt8 := 181 :: 0 :: 234 :: t_Mo_over_33
abbrev t_Mo_over_29 : List UInt8 := 96 :: t_Mo_over_30
abbrev t_Mo_over_28 : List UInt8 := 4 :: t_Mo_over_29
abbrev t_Mo_over_25 : List UInt8 := 180 :: 0 :: 234 :: t_Mo_over_28
abbrev t_Mo_over_24 : List UInt8 := 89 :: t_Mo_over_25
abbrev t_Mo_over_23 : List UInt8 := 42 :: t_Mo_over_24
abbrev t_Mo_over_22 : List UInt8 := 172 :: t_Mo_over_23
abbrev t_Mo_over_21 : List UInt8 := 3 :: t_Mo_over_22
abbrev t_Mo_over_18 : List UInt8 := 159 :: 0 :: 5 :: t_Mo_over_21
abbrev t_Mo_over_17 : List UInt8 := 136 :: t_Mo_over_18
abbrev t_Mo_over_16 : List UInt8 := 127 :: t_Mo_over_17
abbrev t_Mo_over_13 : List UInt8 := 20 :: 0 :: 240 :: t_Mo_over_16
abbrev t_Mo_over_12 : List UInt8 := 33 :: t_Mo_over_13
abbrev t_Mo_over_9 : List UInt8 := 182 :: 0 :: 237 :: t_Mo_over_12
abbrev t_Mo_over_8 : List UInt8 := 42 :: t_Mo_over_9
abbrev t_Mo_over_5 : List UInt8 := 153 :: 0 :: 36 :: t_Mo_over_8
abbrev t_Mo_over_4 : List UInt8 := 148 :: t_Mo_over_5
abbrev t_Mo_over_3 : List UInt8 := 9 :: t_Mo_over_4
abbrev t_Mo_over_2 : List UInt8 := 33 :: t_Mo_over_3
abbrev t_Mo_over_1 : List UInt8 := 66 :: t_Mo_over_2
abbrev t_Mo_over_0 : List UInt8 := 31 :: t_Mo_over_1
theorem a_Mo_over_0 : dk_at b_Mo_over 0 t_Mo_over_0 := dk_start (by decide +kernel)
theorem a_Mo_over_1 : dk_at b_Mo_over 1 t_Mo_over_1 := dk_go 1 a_Mo_over_0 rfl
theorem a_Mo_over_2 : dk_at b_Mo_over 2 t_Mo_over_2 := dk_go 1 a_Mo_over_1 rfl
theorem a_Mo_over_3 : dk_at b_Mo_over 3 t_Mo_over_3 := dk_go 1 a_Mo_over_2 rfl
theorem a_Mo_over_4 : dk_at b_Mo_over 4 t_Mo_over_4 := dk_go 1 a_Mo_over_3 rfl
theorem a_Mo_over_5 : dk_at b_Mo_over 5 t_Mo_over_5 := dk_go 1 a_Mo_over_4 rfl
theorem a_Mo_over_8 : dk_at b_Mo_over 8 t_Mo_over_8 := dk_go 3 a_Mo_over_5 rfl
theorem a_Mo_over_9 : dk_at b_Mo_over 9 t_Mo_over_9 := dk_go 1 a_Mo_over_8 rfl
theorem a_Mo_over_12 : dk_at b_Mo_over 12 t_Mo_over_12 := dk_go 3 a_Mo_over_9 rfl
theorem a_Mo_over_13 : dk_at b_Mo_over 13 t_Mo_over_13 := dk_go 1 a_Mo_over_12 rfl
theorem a_Mo_over_16 : dk_at b_Mo_over 16 t_Mo_over_16 := dk_go 3 a_Mo_over_13 rfl
theorem a_Mo_over_17 : dk_at b_Mo_over 17 t_Mo_over_17 := dk_go 1 a_Mo_over_16 rfl
theorem a_Mo_over_18 : dk_at b_Mo_over 18 t_Mo_over_18 := dk_go 1 a_Mo_over_17 rfl
theorem a_Mo_over_21 : dk_at b_Mo_over 21 t_Mo_over_21 := dk_go 3 a_Mo_over_18 rfl
theorem a_Mo_over_22 : dk_at b_Mo_over 22 t_Mo_over_22 := dk_go 1 a_Mo_over_21 rfl
theorem a_Mo_over_23 : dk_at b_Mo_over 23 t_Mo_over_23 := dk_go 1 a_Mo_over_22 rfl
theorem a_Mo_over_24 : dk_at b_Mo_over 24 t_Mo_over_24 := dk_go 1 a_Mo_over_23 rfl
theorem a_Mo_over_25 : dk_at b_Mo_over 25 t_Mo_over_25 := dk_go 1 a_Mo_over_24 rfl
theorem a_Mo_over_28 : dk_at b_Mo_over 28 t_Mo_over_28 := dk_go 3 a_Mo_over_25 rfl
theorem a_Mo_over_29 : dk_at b_Mo_over 29 t_Mo_over_29 := dk_go 1 a_Mo_over_28 rfl
theorem a_Mo_over_30 : dk_at b_Mo_over 30 t_Mo_over_30 := dk_go 1 a_Mo_over_29 rfl
theorem a_Mo_over_33 : dk_at b_Mo_over 33 t_Mo_over_33 := dk_go 3 a_Mo_over_30 rfl
theorem a_Mo_over_34 : dk_at b_Mo_over 34 t_Mo_over_34 := dk_go 1 a_Mo_over_33 rfl
theorem a_Mo_over_36 : dk_at b_Mo_over 36 t_Mo_over_36 := dk_go 2 a_Mo_over_34 rfl
theorem a_Mo_over_37 : dk_at b_Mo_over 37 t_Mo_over_37 := dk_go 1 a_Mo_over_36 rfl
theorem a_Mo_over_38 : dk_at b_Mo_over 38 t_Mo_over_38 := dk_go 1 a_Mo_over_37 rfl
theorem a_Mo_over_41 : dk_at b_Mo_over 41 t_Mo_over_41 := dk_go 3 a_Mo_over_38 rfl
theorem a_Mo_over_42 : dk_at b_Mo_over 42 t_Mo_over_42 := dk_go 1 a_Mo_over_41 rfl
theorem d_Mo_over_0 : decode b_Mo_over 0 = .ok (.lload_n 1, 1) := dk_0 a_Mo_over_0 (dko_31 _)
theorem d_Mo_over_1 : decode b_Mo_over 1 = .ok (.lstore_n 3, 1) := dk_0 a_Mo_over_1 (dko_66 _)
theorem d_Mo_over_2 : decode b_Mo_over 2 = .ok (.lload_n 3, 1) := dk_0 a_Mo_over_2 (dko_33 _)
theorem d_Mo_over_3 : decode b_Mo_over 3 = .ok (.lconst 0, 1) := dk_0 a_Mo_over_3 (dko_9 _)
theorem d_Mo_over_4 : decode b_Mo_over 4 = .ok (.lcmp, 1) := dk_0 a_Mo_over_4 (dko_148 _)
theorem d_Mo_over_5 : decode b_Mo_over 5 = .ok (.ifCond .eq 36, 3) := dk_S2 a_Mo_over_5 (dko_153 _) (by decide +kernel)
theorem d_Mo_over_8 : decode b_Mo_over 8 = .ok (.aload_n 0, 1) := dk_0 a_Mo_over_8 (dko_42 _)
theorem d_Mo_over_9 : decode b_Mo_over 9 = .ok (.invokevirtual 237, 3) := dk_U2 a_Mo_over_9 (dko_182 _) rfl
theorem d_Mo_over_12 : decode b_Mo_over 12 = .ok (.lload_n 3, 1) := dk_0 a_Mo_over_12 (dko_33 _)
theorem d_Mo_over_13 : decode b_Mo_over 13 = .ok (.ldc2_w 240, 3) := dk_U2 a_Mo_over_13 (dko_20 _) rfl
theorem d_Mo_over_16 : decode b_Mo_over 16 = .ok (.land, 1) := dk_0 a_Mo_over_16 (dko_127 _)
theorem d_Mo_over_17 : decode b_Mo_over 17 = .ok (.l2i, 1) := dk_0 a_Mo_over_17 (dko_136 _)
theorem d_Mo_over_18 : decode b_Mo_over 18 = .ok (.if_icmp .eq 5, 3) := dk_S2 a_Mo_over_18 (dko_159 _) (by decide +kernel)
theorem d_Mo_over_21 : decode b_Mo_over 21 = .ok (.iconst 0, 1) := dk_0 a_Mo_over_21 (dko_3 _)
theorem d_Mo_over_22 : decode b_Mo_over 22 = .ok (.ireturn, 1) := dk_0 a_Mo_over_22 (dko_172 _)
theorem d_Mo_over_23 : decode b_Mo_over 23 = .ok (.aload_n 0, 1) := dk_0 a_Mo_over_23 (dko_42 _)
theorem d_Mo_over_24 : decode b_Mo_over 24 = .ok (.dup, 1) := dk_0 a_Mo_over_24 (dko_89 _)
theorem d_Mo_over_25 : decode b_Mo_over 25 = .ok (.getfield 234, 3) := dk_U2 a_Mo_over_25 (dko_180 _) rfl
theorem d_Mo_over_28 : decode b_Mo_over 28 = .ok (.iconst 1, 1) := dk_0 a_Mo_over_28 (dko_4 _)
theorem d_Mo_over_29 : decode b_Mo_over 29 = .ok (.iadd, 1) := dk_0 a_Mo_over_29 (dko_96 _)
theorem d_Mo_over_30 : decode b_Mo_over 30 = .ok (.putfield 234, 3) := dk_U2 a_Mo_over_30 (dko_181 _) rfl
theorem d_Mo_over_33 : decode b_Mo_over 33 = .ok (.lload_n 3, 1) := dk_0 a_Mo_over_33 (dko_33 _)
theorem d_Mo_over_34 : decode b_Mo_over 34 = .ok (.bipush 8, 2) := dk_S1 a_Mo_over_34 (dko_16 _) (by decide +kernel)
theorem d_Mo_over_36 : decode b_Mo_over 36 = .ok (.lushr, 1) := dk_0 a_Mo_over_36 (dko_125 _)
theorem d_Mo_over_37 : decode b_Mo_over 37 = .ok (.lstore_n 3, 1) := dk_0 a_Mo_over_37 (dko_66 _)
theorem d_Mo_over_38 : decode b_Mo_over 38 = .ok (.goto (-36), 3) := dk_S2 a_Mo_over_38 (dko_167 _) (by decide +kernel)
theorem d_Mo_over_41 : decode b_Mo_over 41 = .ok (.iconst 1, 1) := dk_0 a_Mo_over_41 (dko_4 _)
theorem d_Mo_over_42 : decode b_Mo_over 42 = .ok (.ireturn, 1) := dk_0 a_Mo_over_42 (dko_172 _)
set_option maxHeartbeats 4000000 in
set_option maxRecDepth 100000 in
theorem ok_Mo_over (pc : Nat) : OpS mt mi_Mo_over pc (cs_Mo_over pc) := (os_n (os_n (os_n (os_n (os_l (so_lload_n d_Mo_over_0 rfl)) (os_n (os_l (so_lstore_n d_Mo_over_1 rfl (by decide))) (os_l (so_lload_n d_Mo_over_2 rfl)))) (os_n (os_n (os_l (so_lconst d_Mo_over_3 (by decide))) (os_l (so_lcmp d_Mo_over_4))) (os_n (os_l (so_ifeq d_Mo_over_5 (by decide))) (os_l (so_aload_n d_Mo_over_8 rfl))))) (os_n (os_n (os_l (so_callV (iv := mi_Mo_here) rfl rfl rfl mw_2072 mw_2074 sl_91 mw_18 mw_2075 ⟨by decide +kernel, by decide +kernel, by decide +kernel⟩ (by decide) d_Mo_over_9)) (os_n (os_l (so_lload_n d_Mo_over_12 rfl)) (os_l (so_ldc2 mw_2081 d_Mo_over_13)))) (os_n (os_n (os_l (so_land d_Mo_over_16)) (os_l (so_l2i d_Mo_over_17))) (os_n (os_l (so_iceq d_Mo_over_18 (by decide))) (os_l (so_iconst d_Mo_over_21 (by decide))))))) (os_n (os_n (os_n (os_l (so_zreturn rfl d_Mo_over_22)) (os_n (os_l (so_aload_n d_Mo_over_23 rfl)) (os_l (so_dup d_Mo_over_24)))) (os_n (os_n (os_l (so_get (C := R_Mo) (T := F_Mo) (N := 87) (j := 21) in_Mo rfl (by decide) mw_1815 d_Mo_over_25)) (os_l (so_iconst d_Mo_over_28 (by decide)))) (os_n (os_l (so_iadd d_Mo_over_29)) (os_l (so_putI (C := R_Mo) (T := F_Mo) (N := 87) (j := 21) in_Mo t_Mo_ok n_Mo rfl (by decide) mw_1815 rfl (by decide +kernel) d_Mo_over_30))))) (os_n (os_n (os_l (so_lload_n d_Mo_over_33 rfl)) (os_n (os_l (so_bipush d_Mo_over_34 (by decide))) (os_l (so_lushr d_Mo_over_36)))) (os_n (os_n (os_l (so_lstore_n d_Mo_over_37 rfl (by decide))) (os_l (so_goto d_Mo_over_38 (by decide)))) (os_n (os_l (so_iconst d_Mo_over_41 (by decide))) (os_l (so_zreturn rfl d_Mo_over_42)))))))
abbrev t_Mo_number_128 : List UInt8 := 172 :: []
abbrev t_Mo_number_127 : List UInt8 := 29 :: t_Mo_number_128
abbrev t_Mo_number_124 : List UInt8 := 167 :: 0 :: 4 :: t_Mo_number_127
abbrev t_Mo_number_122 : List UInt8 := 16 :: 254 :: t_Mo_number_124
abbrev t_Mo_number_119 : List UInt8 := 160 :: 0 :: 8 :: t_Mo_number_122
abbrev t_Mo_number_118 : List UInt8 := 28 :: t_Mo_number_119
abbrev t_Mo_number_115 : List UInt8 := 180 :: 0 :: 234 :: t_Mo_number_118
abbrev t_Mo_number_114 : List UInt8 := 42 :: t_Mo_number_115
abbrev t_Mo_number_111 : List UInt8 := 167 :: 255 :: 190 :: t_Mo_number_114
abbrev t_Mo_number_108 : List UInt8 := 181 :: 0 :: 234 :: t_Mo_number_111
abbrev t_Mo_number_107 : List UInt8 := 96 :: t_Mo_number_108
abbrev t_Mo_number_106 : List UInt8 := 4 :: t_Mo_number_107
abbrev t_Mo_number_103 : List UInt8 := 180 :: 0 :: 234 :: t_Mo_number_106
abbrev t_Mo_number_102 : List UInt8 := 89 :: t_Mo_number_103
abbrev t_Mo_number_101 : List UInt8 := 42 :: t_Mo_number_102
abbrev t_Mo_number_100 : List UInt8 := 62 :: t_Mo_number_101
abbrev t_Mo_number_99 : List UInt8 := 100 :: t_Mo_number_100
abbrev t_Mo_number_97 : List UInt8 := 16 :: 48 :: t_Mo_number_99
abbrev t_Mo_number_96 : List UInt8 := 96 :: t_Mo_number_97
abbrev t_Mo_number_93 : List UInt8 := 182 :: 0 :: 237 :: t_Mo_number_96
abbrev t_Mo_number_92 : List UInt8 := 42 :: t_Mo_number_93
abbrev t_Mo_number_91 : List UInt8 := 104 :: t_Mo_number_92
abbrev t_Mo_number_90 : List UInt8 := 29 :: t_Mo_number_91
abbrev t_Mo_number_88 : List UInt8 := 16 :: 10 :: t_Mo_number_90
abbrev t_Mo_number_85 : List UInt8 := 153 :: 0 :: 29 :: t_Mo_number_88
abbrev t_Mo_number_84 : List UInt8 := 29 :: t_Mo_number_85
abbrev t_Mo_number_81 : List UInt8 := 160 :: 0 :: 7 :: t_Mo_number_84
abbrev t_Mo_number_80 : List UInt8 := 4 :: t_Mo_number_81
abbrev t_Mo_number_79 : List UInt8 := 100 :: t_Mo_number_80
abbrev t_Mo_number_78 : List UInt8 := 28 :: t_Mo_number_79
abbrev t_Mo_number_75 : List UInt8 := 180 :: 0 :: 234 :: t_Mo_number_78
abbrev t_Mo_number_74 : List UInt8 := 42 :: t_Mo_number_75
abbrev t_Mo_number_71 : List UInt8 := 162 :: 0 :: 43 :: t_Mo_number_74
abbrev t_Mo_number_69 : List UInt8 := 16 :: 7 :: t_Mo_number_71
abbrev t_Mo_number_68 : List UInt8 := 100 :: t_Mo_number_69
abbrev t_Mo_number_67 : List UInt8 := 28 :: t_Mo_number_68
abbrev t_Mo_number_64 : List UInt8 := 180 :: 0 :: 234 :: t_Mo_number_67
abbrev t_Mo_number_63 : List UInt8 := 42 :: t_Mo_number_64
abbrev t_Mo_number_60 : List UInt8 := 163 :: 0 :: 54 :: t_Mo_number_63
abbrev t_Mo_number_58 : List UInt8 := 16 :: 57 :: t_Mo_number_60
abbrev t_Mo_number_55 : List UInt8 := 182 :: 0 :: 237 :: t_Mo_number_58
abbrev t_Mo_number_54 : List UInt8 := 42 :: t_Mo_number_55
abbrev t_Mo_number_51 : List UInt8 := 161 :: 0 :: 63 :: t_Mo_number_54
abbrev t_Mo_number_49 : List UInt8 := 16 :: 48 :: t_Mo_number_51
abbrev t_Mo_number_46 : List UInt8 := 182 :: 0 :: 237 :: t_Mo_number_49
abbrev t_Mo_number_45 : List UInt8 := 42 :: t_Mo_number_46
abbrev t_Mo_number_44 : List UInt8 := 62 :: t_Mo_number_45
abbrev t_Mo_number_43 : List UInt8 := 3 :: t_Mo_number_44
abbrev t_Mo_number_42 : List UInt8 := 61 :: t_Mo_number_43
abbrev t_Mo_number_39 : List UInt8 := 180 :: 0 :: 234 :: t_Mo_number_42
abbrev t_Mo_number_38 : List UInt8 := 42 :: t_Mo_number_39
abbrev t_Mo_number_37 : List UInt8 := 172 :: t_Mo_number_38
abbrev t_Mo_number_36 : List UInt8 := 2 :: t_Mo_number_37
abbrev t_Mo_number_33 : List UInt8 := 181 :: 0 :: 234 :: t_Mo_number_36
abbrev t_Mo_number_32 : List UInt8 := 96 :: t_Mo_number_33
abbrev t_Mo_number_31 : List UInt8 := 4 :: t_Mo_number_32
abbrev t_Mo_number_28 : List UInt8 := 180 :: 0 :: 234 :: t_Mo_number_31
abbrev t_Mo_number_27 : List UInt8 := 89 :: t_Mo_number_28
abbrev t_Mo_number_26 : List UInt8 := 42 :: t_Mo_number_27
abbrev t_Mo_number_23 : List UInt8 := 160 :: 0 :: 15 :: t_Mo_number_26
abbrev t_Mo_number_21 : List UInt8 := 16 :: 45 :: t_Mo_number_23
abbrev t_Mo_number_18 : List UInt8 := 182 :: 0 :: 237 :: t_Mo_number_21
abbrev t_Mo_number_17 : List UInt8 := 42 :: t_Mo_number_18
abbrev t_Mo_number_14 : List UInt8 := 153 :: 0 :: 24 :: t_Mo_number_17
abbrev t_Mo_number_13 : List UInt8 := 27 :: t_Mo_number_14
abbrev t_Mo_number_12 : List UInt8 := 172 :: t_Mo_number_13
abbrev t_Mo_number_10 : List UInt8 := 16 :: 254 :: t_Mo_number_12
abbrev t_Mo_number_7 : List UInt8 := 154 :: 0 :: 6 :: t_Mo_number_10
abbrev t_Mo_number_4 : List UInt8 := 182 :: 0 :: 244 :: t_Mo_number_7
abbrev t_Mo_number_1 : List UInt8 := 20 :: 0 :: 242 :: t_Mo_number_4
abbrev t_Mo_number_0 : List UInt8 := 42 :: t_Mo_number_1
theorem a_Mo_number_0 : dk_at b_Mo_number 0 t_Mo_number_0 := dk_start (by decide +kernel)
theorem a_Mo_number_1 : dk_at b_Mo_number 1 t_Mo_number_1 := dk_go 1 a_Mo_number_0 rfl
theorem a_Mo_number_4 : dk_at b_Mo_number 4 t_Mo_number_4 := dk_go 3 a_Mo_number_1 rfl
theorem a_Mo_number_7 : dk_at b_Mo_number 7 t_Mo_number_7 := dk_go 3 a_Mo_number_4 rfl
theorem a_Mo_number_10 : dk_at b_Mo_number 10 t_Mo_number_10 := dk_go 3 a_Mo_number_7 rfl
theorem a_Mo_number_12 : dk_at b_Mo_number 12 t_Mo_number_12 := dk_go 2 a_Mo_number_10 rfl
theorem a_Mo_number_13 : dk_at b_Mo_number 13 t_Mo_number_13 := dk_go 1 a_Mo_number_12 rfl
theorem a_Mo_number_14 : dk_at b_Mo_number 14 t_Mo_number_14 := dk_go 1 a_Mo_number_13 rfl
theorem a_Mo_number_17 : dk_at b_Mo_number 17 t_Mo_number_17 := dk_go 3 a_Mo_number_14 rfl
theorem a_Mo_number_18 : dk_at b_Mo_number 18 t_Mo_number_18 := dk_go 1 a_Mo_number_17 rfl
theorem a_Mo_number_21 : dk_at b_Mo_number 21 t_Mo_number_21 := dk_go 3 a_Mo_number_18 rfl
theorem a_Mo_number_23 : dk_at b_Mo_number 23 t_Mo_number_23 := dk_go 2 a_Mo_number_21 rfl
theorem a_Mo_number_26 : dk_at b_Mo_number 26 t_Mo_number_26 := dk_go 3 a_Mo_number_23 rfl
theorem a_Mo_number_27 : dk_at b_Mo_number 27 t_Mo_number_27 := dk_go 1 a_Mo_number_26 rfl
theorem a_Mo_number_28 : dk_at b_Mo_number 28 t_Mo_number_28 := dk_go 1 a_Mo_number_27 rfl
theorem a_Mo_number_31 : dk_at b_Mo_number 31 t_Mo_number_31 := dk_go 3 a_Mo_number_28 rfl
theorem a_Mo_number_32 : dk_at b_Mo_number 32 t_Mo_number_32 := dk_go 1 a_Mo_number_31 rfl
theorem a_Mo_number_33 : dk_at b_Mo_number 33 t_Mo_number_33 := dk_go 1 a_Mo_number_32 rfl
theorem a_Mo_number_36 : dk_at b_Mo_number 36 t_Mo_number_36 := dk_go 3 a_Mo_number_33 rfl
theorem a_Mo_number_37 : dk_at b_Mo_number 37 t_Mo_number_37 := dk_go 1 a_Mo_number_36 rfl
theorem a_Mo_number_38 : dk_at b_Mo_number 38 t_Mo_number_38 := dk_go 1 a_Mo_number_37 rfl
theorem a_Mo_number_39 : dk_at b_Mo_number 39 t_Mo_number_39 := dk_go 1 a_Mo_number_38 rfl
theorem a_Mo_number_42 : dk_at b_Mo_number 42 t_Mo_number_42 := dk_go 3 a_Mo_number_39 rfl
theorem a_Mo_number_43 : dk_at b_Mo_number 43 t_Mo_number_43 := dk_go 1 a_Mo_number_42 rfl
theorem a_Mo_number_44 : dk_at b_Mo_number 44 t_Mo_number_44 := dk_go 1 a_Mo_number_43 rfl
theorem a_Mo_number_45 : dk_at b_Mo_number 45 t_Mo_number_45 := dk_go 1 a_Mo_number_44 rfl
theorem a_Mo_number_46 : dk_at b_Mo_number 46 t_Mo_number_46 := dk_go 1 a_Mo_number_45 rfl
theorem a_Mo_number_49 : dk_at b_Mo_number 49 t_Mo_number_49 := dk_go 3 a_Mo_number_46 rfl
theorem a_Mo_number_51 : dk_at b_Mo_number 51 t_Mo_number_51 := dk_go 2 a_Mo_number_49 rfl
theorem a_Mo_number_54 : dk_at b_Mo_number 54 t_Mo_number_54 := dk_go 3 a_Mo_number_51 rfl
theorem a_Mo_number_55 : dk_at b_Mo_number 55 t_Mo_number_55 := dk_go 1 a_Mo_number_54 rfl
theorem a_Mo_number_58 : dk_at b_Mo_number 58 t_Mo_number_58 := dk_go 3 a_Mo_number_55 rfl
theorem a_Mo_number_60 : dk_at b_Mo_number 60 t_Mo_number_60 := dk_go 2 a_Mo_number_58 rfl
theorem a_Mo_number_63 : dk_at b_Mo_number 63 t_Mo_number_63 := dk_go 3 a_Mo_number_60 rfl
theorem a_Mo_number_64 : dk_at b_Mo_number 64 t_Mo_number_64 := dk_go 1 a_Mo_number_63 rfl
theorem a_Mo_number_67 : dk_at b_Mo_number 67 t_Mo_number_67 := dk_go 3 a_Mo_number_64 rfl
theorem a_Mo_number_68 : dk_at b_Mo_number 68 t_Mo_number_68 := dk_go 1 a_Mo_number_67 rfl
theorem a_Mo_number_69 : dk_at b_Mo_number 69 t_Mo_number_69 := dk_go 1 a_Mo_number_68 rfl
theorem a_Mo_number_71 : dk_at b_Mo_number 71 t_Mo_number_71 := dk_go 2 a_Mo_number_69 rfl
theorem a_Mo_number_74 : dk_at b_Mo_number 74 t_Mo_number_74 := dk_go 3 a_Mo_number_71 rfl
theorem a_Mo_number_75 : dk_at b_Mo_number 75 t_Mo_number_75 := dk_go 1 a_Mo_number_74 rfl
theorem a_Mo_number_78 : dk_at b_Mo_number 78 t_Mo_number_78 := dk_go 3 a_Mo_number_75 rfl
theorem a_Mo_number_79 : dk_at b_Mo_number 79 t_Mo_number_79 := dk_go 1 a_Mo_number_78 rfl
theorem a_Mo_number_80 : dk_at b_Mo_number 80 t_Mo_number_80 := dk_go 1 a_Mo_number_79 rfl
theorem a_Mo_number_81 : dk_at b_Mo_number 81 t_Mo_number_81 := dk_go 1 a_Mo_number_80 rfl
theorem a_Mo_number_84 : dk_at b_Mo_number 84 t_Mo_number_84 := dk_go 3 a_Mo_number_81 rfl
theorem a_Mo_number_85 : dk_at b_Mo_number 85 t_Mo_number_85 := dk_go 1 a_Mo_number_84 rfl
theorem a_Mo_number_88 : dk_at b_Mo_number 88 t_Mo_number_88 := dk_go 3 a_Mo_number_85 rfl
theorem a_Mo_number_90 : dk_at b_Mo_number 90 t_Mo_number_90 := dk_go 2 a_Mo_number_88 rfl
theorem a_Mo_number_91 : dk_at b_Mo_number 91 t_Mo_number_91 := dk_go 1 a_Mo_number_90 rfl
theorem a_Mo_number_92 : dk_at b_Mo_number 92 t_Mo_number_92 := dk_go 1 a_Mo_number_91 rfl
theorem a_Mo_number_93 : dk_at b_Mo_number 93 t_Mo_number_93 := dk_go 1 a_Mo_number_92 rfl
theorem a_Mo_number_96 : dk_at b_Mo_number 96 t_Mo_number_96 := dk_go 3 a_Mo_number_93 rfl
theorem a_Mo_number_97 : dk_at b_Mo_number 97 t_Mo_number_97 := dk_go 1 a_Mo_number_96 rfl
theorem a_Mo_number_99 : dk_at b_Mo_number 99 t_Mo_number_99 := dk_go 2 a_Mo_number_97 rfl
theorem a_Mo_number_100 : dk_at b_Mo_number 100 t_Mo_number_100 := dk_go 1 a_Mo_number_99 rfl
theorem a_Mo_number_101 : dk_at b_Mo_number 101 t_Mo_number_101 := dk_go 1 a_Mo_number_100 rfl
theorem a_Mo_number_102 : dk_at b_Mo_number 102 t_Mo_number_102 := dk_go 1 a_Mo_number_101 rfl
theorem a_Mo_number_103 : dk_at b_Mo_number 103 t_Mo_number_103 := dk_go 1 a_Mo_number_102 rfl
theorem a_Mo_number_106 : dk_at b_Mo_number 106 t_Mo_number_106 := dk_go 3 a_Mo_number_103 rfl
theorem a_Mo_number_107 : dk_at b_Mo_number 107 t_Mo_number_107 := dk_go 1 a_Mo_number_106 rfl
theorem a_Mo_number_108 : dk_at b_Mo_number 108 t_Mo_number_108 := dk_go 1 a_Mo_number_107 rfl
theorem a_Mo_number_111 : dk_at b_Mo_number 111 t_Mo_number_111 := dk_go 3 a_Mo_number_108 rfl
theorem a_Mo_number_114 : dk_at b_Mo_number 114 t_Mo_number_114 := dk_go 3 a_Mo_number_111 rfl
theorem a_Mo_number_115 : dk_at b_Mo_number 115 t_Mo_number_115 := dk_go 1 a_Mo_number_114 rfl
theorem a_Mo_number_118 : dk_at b_Mo_number 118 t_Mo_number_118 := dk_go 3 a_Mo_number_115 rfl
theorem a_Mo_number_119 : dk_at b_Mo_number 119 t_Mo_number_119 := dk_go 1 a_Mo_number_118 rfl
theorem a_Mo_number_122 : dk_at b_Mo_number 122 t_Mo_number_122 := dk_go 3 a_Mo_number_119 rfl
theorem a_Mo_number_124 : dk_at b_Mo_number 124 t_Mo_number_124 := dk_go 2 a_Mo_number_122 rfl
theorem a_Mo_number_127 : dk_at b_Mo_number 127 t_Mo_number_127 := dk_go 3 a_Mo_number_124 rfl
theorem a_Mo_number_128 : dk_at b_Mo_number 128 t_Mo_number_128 := dk_go 1 a_Mo_number_127 rfl
theorem d_Mo_number_0 : decode b_Mo_number 0 = .ok (.aload_n 0, 1) := dk_0 a_Mo_number_0 (dko_42 _)
theorem d_Mo_number_1 : decode b_Mo_number 1 = .ok (.ldc2_w 242, 3) := dk_U2 a_Mo_number_1 (dko_20 _) rfl
theorem d_Mo_number_4 : decode b_Mo_number 4 = .ok (.invokevirtual 244, 3) := dk_U2 a_Mo_number_4 (dko_182 _) rfl
theorem d_Mo_number_7 : decode b_Mo_number 7 = .ok (.ifCond .ne 6, 3) := dk_S2 a_Mo_number_7 (dko_154 _) (by decide +kernel)
theorem d_Mo_number_10 : decode b_Mo_number 10 = .ok (.bipush (-2), 2) := dk_S1 a_Mo_number_10 (dko_16 _) (by decide +kernel)
theorem d_Mo_number_12 : decode b_Mo_number 12 = .ok (.ireturn, 1) := dk_0 a_Mo_number_12 (dko_172 _)
theorem d_Mo_number_13 : decode b_Mo_number 13 = .ok (.iload_n 1, 1) := dk_0 a_Mo_number_13 (dko_27 _)
theorem d_Mo_number_14 : decode b_Mo_number 14 = .ok (.ifCond .eq 24, 3) := dk_S2 a_Mo_number_14 (dko_153 _) (by decide +kernel)
theorem d_Mo_number_17 : decode b_Mo_number 17 = .ok (.aload_n 0, 1) := dk_0 a_Mo_number_17 (dko_42 _)
theorem d_Mo_number_18 : decode b_Mo_number 18 = .ok (.invokevirtual 237, 3) := dk_U2 a_Mo_number_18 (dko_182 _) rfl
theorem d_Mo_number_21 : decode b_Mo_number 21 = .ok (.bipush 45, 2) := dk_S1 a_Mo_number_21 (dko_16 _) (by decide +kernel)
theorem d_Mo_number_23 : decode b_Mo_number 23 = .ok (.if_icmp .ne 15, 3) := dk_S2 a_Mo_number_23 (dko_160 _) (by decide +kernel)
theorem d_Mo_number_26 : decode b_Mo_number 26 = .ok (.aload_n 0, 1) := dk_0 a_Mo_number_26 (dko_42 _)
theorem d_Mo_number_27 : decode b_Mo_number 27 = .ok (.dup, 1) := dk_0 a_Mo_number_27 (dko_89 _)
theorem d_Mo_number_28 : decode b_Mo_number 28 = .ok (.getfield 234, 3) := dk_U2 a_Mo_number_28 (dko_180 _) rfl
theorem d_Mo_number_31 : decode b_Mo_number 31 = .ok (.iconst 1, 1) := dk_0 a_Mo_number_31 (dko_4 _)
theorem d_Mo_number_32 : decode b_Mo_number 32 = .ok (.iadd, 1) := dk_0 a_Mo_number_32 (dko_96 _)
theorem d_Mo_number_33 : decode b_Mo_number 33 = .ok (.putfield 234, 3) := dk_U2 a_Mo_number_33 (dko_181 _) rfl
theorem d_Mo_number_36 : decode b_Mo_number 36 = .ok (.iconst (-1), 1) := dk_0 a_Mo_number_36 (dko_2 _)
theorem d_Mo_number_37 : decode b_Mo_number 37 = .ok (.ireturn, 1) := dk_0 a_Mo_number_37 (dko_172 _)
theorem d_Mo_number_38 : decode b_Mo_number 38 = .ok (.aload_n 0, 1) := dk_0 a_Mo_number_38 (dko_42 _)
theorem d_Mo_number_39 : decode b_Mo_number 39 = .ok (.getfield 234, 3) := dk_U2 a_Mo_number_39 (dko_180 _) rfl
theorem d_Mo_number_42 : decode b_Mo_number 42 = .ok (.istore_n 2, 1) := dk_0 a_Mo_number_42 (dko_61 _)
theorem d_Mo_number_43 : decode b_Mo_number 43 = .ok (.iconst 0, 1) := dk_0 a_Mo_number_43 (dko_3 _)
theorem d_Mo_number_44 : decode b_Mo_number 44 = .ok (.istore_n 3, 1) := dk_0 a_Mo_number_44 (dko_62 _)
theorem d_Mo_number_45 : decode b_Mo_number 45 = .ok (.aload_n 0, 1) := dk_0 a_Mo_number_45 (dko_42 _)
theorem d_Mo_number_46 : decode b_Mo_number 46 = .ok (.invokevirtual 237, 3) := dk_U2 a_Mo_number_46 (dko_182 _) rfl
theorem d_Mo_number_49 : decode b_Mo_number 49 = .ok (.bipush 48, 2) := dk_S1 a_Mo_number_49 (dko_16 _) (by decide +kernel)
theorem d_Mo_number_51 : decode b_Mo_number 51 = .ok (.if_icmp .lt 63, 3) := dk_S2 a_Mo_number_51 (dko_161 _) (by decide +kernel)
theorem d_Mo_number_54 : decode b_Mo_number 54 = .ok (.aload_n 0, 1) := dk_0 a_Mo_number_54 (dko_42 _)
theorem d_Mo_number_55 : decode b_Mo_number 55 = .ok (.invokevirtual 237, 3) := dk_U2 a_Mo_number_55 (dko_182 _) rfl
theorem d_Mo_number_58 : decode b_Mo_number 58 = .ok (.bipush 57, 2) := dk_S1 a_Mo_number_58 (dko_16 _) (by decide +kernel)
theorem d_Mo_number_60 : decode b_Mo_number 60 = .ok (.if_icmp .gt 54, 3) := dk_S2 a_Mo_number_60 (dko_163 _) (by decide +kernel)
theorem d_Mo_number_63 : decode b_Mo_number 63 = .ok (.aload_n 0, 1) := dk_0 a_Mo_number_63 (dko_42 _)
theorem d_Mo_number_64 : decode b_Mo_number 64 = .ok (.getfield 234, 3) := dk_U2 a_Mo_number_64 (dko_180 _) rfl
theorem d_Mo_number_67 : decode b_Mo_number 67 = .ok (.iload_n 2, 1) := dk_0 a_Mo_number_67 (dko_28 _)
theorem d_Mo_number_68 : decode b_Mo_number 68 = .ok (.isub, 1) := dk_0 a_Mo_number_68 (dko_100 _)
theorem d_Mo_number_69 : decode b_Mo_number 69 = .ok (.bipush 7, 2) := dk_S1 a_Mo_number_69 (dko_16 _) (by decide +kernel)
theorem d_Mo_number_71 : decode b_Mo_number 71 = .ok (.if_icmp .ge 43, 3) := dk_S2 a_Mo_number_71 (dko_162 _) (by decide +kernel)
theorem d_Mo_number_74 : decode b_Mo_number 74 = .ok (.aload_n 0, 1) := dk_0 a_Mo_number_74 (dko_42 _)
theorem d_Mo_number_75 : decode b_Mo_number 75 = .ok (.getfield 234, 3) := dk_U2 a_Mo_number_75 (dko_180 _) rfl
theorem d_Mo_number_78 : decode b_Mo_number 78 = .ok (.iload_n 2, 1) := dk_0 a_Mo_number_78 (dko_28 _)
theorem d_Mo_number_79 : decode b_Mo_number 79 = .ok (.isub, 1) := dk_0 a_Mo_number_79 (dko_100 _)
theorem d_Mo_number_80 : decode b_Mo_number 80 = .ok (.iconst 1, 1) := dk_0 a_Mo_number_80 (dko_4 _)
theorem d_Mo_number_81 : decode b_Mo_number 81 = .ok (.if_icmp .ne 7, 3) := dk_S2 a_Mo_number_81 (dko_160 _) (by decide +kernel)
theorem d_Mo_number_84 : decode b_Mo_number 84 = .ok (.iload_n 3, 1) := dk_0 a_Mo_number_84 (dko_29 _)
theorem d_Mo_number_85 : decode b_Mo_number 85 = .ok (.ifCond .eq 29, 3) := dk_S2 a_Mo_number_85 (dko_153 _) (by decide +kernel)
theorem d_Mo_number_88 : decode b_Mo_number 88 = .ok (.bipush 10, 2) := dk_S1 a_Mo_number_88 (dko_16 _) (by decide +kernel)
theorem d_Mo_number_90 : decode b_Mo_number 90 = .ok (.iload_n 3, 1) := dk_0 a_Mo_number_90 (dko_29 _)
theorem d_Mo_number_91 : decode b_Mo_number 91 = .ok (.imul, 1) := dk_0 a_Mo_number_91 (dko_104 _)
theorem d_Mo_number_92 : decode b_Mo_number 92 = .ok (.aload_n 0, 1) := dk_0 a_Mo_number_92 (dko_42 _)
theorem d_Mo_number_93 : decode b_Mo_number 93 = .ok (.invokevirtual 237, 3) := dk_U2 a_Mo_number_93 (dko_182 _) rfl
theorem d_Mo_number_96 : decode b_Mo_number 96 = .ok (.iadd, 1) := dk_0 a_Mo_number_96 (dko_96 _)
theorem d_Mo_number_97 : decode b_Mo_number 97 = .ok (.bipush 48, 2) := dk_S1 a_Mo_number_97 (dko_16 _) (by decide +kernel)
theorem d_Mo_number_99 : decode b_Mo_number 99 = .ok (.isub, 1) := dk_0 a_Mo_number_99 (dko_100 _)
theorem d_Mo_number_100 : decode b_Mo_number 100 = .ok (.istore_n 3, 1) := dk_0 a_Mo_number_100 (dko_62 _)
theorem d_Mo_number_101 : decode b_Mo_number 101 = .ok (.aload_n 0, 1) := dk_0 a_Mo_number_101 (dko_42 _)
theorem d_Mo_number_102 : decode b_Mo_number 102 = .ok (.dup, 1) := dk_0 a_Mo_number_102 (dko_89 _)
theorem d_Mo_number_103 : decode b_Mo_number 103 = .ok (.getfield 234, 3) := dk_U2 a_Mo_number_103 (dko_180 _) rfl
theorem d_Mo_number_106 : decode b_Mo_number 106 = .ok (.iconst 1, 1) := dk_0 a_Mo_number_106 (dko_4 _)
theorem d_Mo_number_107 : decode b_Mo_number 107 = .ok (.iadd, 1) := dk_0 a_Mo_number_107 (dko_96 _)
theorem d_Mo_number_108 : decode b_Mo_number 108 = .ok (.putfield 234, 3) := dk_U2 a_Mo_number_108 (dko_181 _) rfl
theorem d_Mo_number_111 : decode b_Mo_number 111 = .ok (.goto (-66), 3) := dk_S2 a_Mo_number_111 (dko_167 _) (by decide +kernel)
theorem d_Mo_number_114 : decode b_Mo_number 114 = .ok (.aload_n 0, 1) := dk_0 a_Mo_number_114 (dko_42 _)
theorem d_Mo_number_115 : decode b_Mo_number 115 = .ok (.getfield 234, 3) := dk_U2 a_Mo_number_115 (dko_180 _) rfl
theorem d_Mo_number_118 : decode b_Mo_number 118 = .ok (.iload_n 2, 1) := dk_0 a_Mo_number_118 (dko_28 _)
theorem d_Mo_number_119 : decode b_Mo_number 119 = .ok (.if_icmp .ne 8, 3) := dk_S2 a_Mo_number_119 (dko_160 _) (by decide +kernel)
theorem d_Mo_number_122 : decode b_Mo_number 122 = .ok (.bipush (-2), 2) := dk_S1 a_Mo_number_122 (dko_16 _) (by decide +kernel)
theorem d_Mo_number_124 : decode b_Mo_number 124 = .ok (.goto 4, 3) := dk_S2 a_Mo_number_124 (dko_167 _) (by decide +kernel)
theorem d_Mo_number_127 : decode b_Mo_number 127 = .ok (.iload_n 3, 1) := dk_0 a_Mo_number_127 (dko_29 _)
theorem d_Mo_number_128 : decode b_Mo_number 128 = .ok (.ireturn, 1) := dk_0 a_Mo_number_128 (dko_172 _)
set_option maxHeartbeats 4000000 in
set_option maxRecDepth 100000 in
theorem ok_Mo_number (pc : Nat) : OpS mt mi_Mo_number pc (cs_Mo_number pc) := (os_n (os_n (os_n (os_n (os_n (os_n (os_l (so_aload_n d_Mo_number_0 rfl)) (os_l (so_ldc2 mw_2090 d_Mo_number_1))) (os_n (os_l (so_callV (iv := mi_Mo_over) rfl rfl rfl mw_2077 mw_2079 sl_92 mw_18 mw_2080 ⟨by decide +kernel, by decide +kernel, by decide +kernel⟩ (by decide) d_Mo_number_4)) (os_l (so_ifne d_Mo_number_7 (by decide))))) (os_n (os_n (os_l (so_bipush d_Mo_number_10 (by decide))) (os_l (so_ireturn rfl d_Mo_number_12))) (os_n (os_l (so_iload_n d_Mo_number_13 rfl)) (os_l (so_ifeq d_Mo_number_14 (by decide)))))) (os_n (os_n (os_n (os_l (so_aload_n d_Mo_number_17 rfl)) (os_l (so_callV (iv := mi_Mo_here) rfl rfl rfl mw_2072 mw_2074 sl_91 mw_18 mw_2075 ⟨by decide +kernel, by decide +kernel, by decide +kernel⟩ (by decide) d_Mo_number_18))) (os_n (os_l (so_bipush d_Mo_number_21 (by decide))) (os_l (so_icne d_Mo_number_23 (by decide))))) (os_n (os_n (os_l (so_aload_n d_Mo_number_26 rfl)) (os_l (so_dup d_Mo_number_27))) (os_n (os_l (so_get (C := R_Mo) (T := F_Mo) (N := 87) (j := 21) in_Mo rfl (by decide) mw_1815 d_Mo_number_28)) (os_n (os_l (so_iconst d_Mo_number_31 (by decide))) (os_l (so_iadd d_Mo_number_32))))))) (os_n (os_n (os_n (os_n (os_l (so_putI (C := R_Mo) (T := F_Mo) (N := 87) (j := 21) in_Mo t_Mo_ok n_Mo rfl (by decide) mw_1815 rfl (by decide +kernel) d_Mo_number_33)) (os_l (so_iconst d_Mo_number_36 (by decide)))) (os_n (os_l (so_ireturn rfl d_Mo_number_37)) (os_l (so_aload_n d_Mo_number_38 rfl)))) (os_n (os_n (os_l (so_get (C := R_Mo) (T := F_Mo) (N := 87) (j := 21) in_Mo rfl (by decide) mw_1815 d_Mo_number_39)) (os_l (so_istore_n d_Mo_number_42 rfl (by decide)))) (os_n (os_l (so_iconst d_Mo_number_43 (by decide))) (os_n (os_l (so_istore_n d_Mo_number_44 rfl (by decide))) (os_l (so_aload_n d_Mo_number_45 rfl)))))) (os_n (os_n (os_n (os_l (so_callV (iv := mi_Mo_here) rfl rfl rfl mw_2072 mw_2074 sl_91 mw_18 mw_2075 ⟨by decide +kernel, by decide +kernel, by decide +kernel⟩ (by decide) d_Mo_number_46)) (os_l (so_bipush d_Mo_number_49 (by decide)))) (os_n (os_l (so_iclt d_Mo_number_51 (by decide))) (os_l (so_aload_n d_Mo_number_54 rfl)))) (os_n (os_n (os_l (so_callV (iv := mi_Mo_here) rfl rfl rfl mw_2072 mw_2074 sl_91 mw_18 mw_2075 ⟨by decide +kernel, by decide +kernel, by decide +kernel⟩ (by decide) d_Mo_number_55)) (os_l (so_bipush d_Mo_number_58 (by decide)))) (os_n (os_l (so_icgt d_Mo_number_60 (by decide))) (os_n (os_l (so_aload_n d_Mo_number_63 rfl)) (os_l (so_get (C := R_Mo) (T := F_Mo) (N := 87) (j := 21) in_Mo rfl (by decide) mw_1815 d_Mo_number_64)))))))) (os_n (os_n (os_n (os_n (os_n (os_l (so_iload_n d_Mo_number_67 rfl)) (os_l (so_isub d_Mo_number_68))) (os_n (os_l (so_bipush d_Mo_number_69 (by decide))) (os_l (so_icge d_Mo_number_71 (by decide))))) (os_n (os_n (os_l (so_aload_n d_Mo_number_74 rfl)) (os_l (so_get (C := R_Mo) (T := F_Mo) (N := 87) (j := 21) in_Mo rfl (by decide) mw_1815 d_Mo_number_75))) (os_n (os_l (so_iload_n d_Mo_number_78 rfl)) (os_n (os_l (so_isub d_Mo_number_79)) (os_l (so_iconst d_Mo_number_80 (by decide))))))) (os_n (os_n (os_n (os_l (so_icne d_Mo_number_81 (by decide))) (os_l (so_iload_n d_Mo_number_84 rfl))) (os_n (os_l (so_ifeq d_Mo_number_85 (by decide))) (os_l (so_bipush d_Mo_number_88 (by decide))))) (os_n (os_n (os_l (so_iload_n d_Mo_number_90 rfl)) (os_l (so_imul d_Mo_number_91))) (os_n (os_l (so_aload_n d_Mo_number_92 rfl)) (os_n (os_l (so_callV (iv := mi_Mo_here) rfl rfl rfl mw_2072 mw_2074 sl_91 mw_18 mw_2075 ⟨by decide +kernel, by decide +kernel, by decide +kernel⟩ (by decide) d_Mo_number_93)) (os_l (so_iadd d_Mo_number_96))))))) (os_n (os_n (os_n (os_n (os_l (so_bipush d_Mo_number_97 (by decide))) (os_l (so_isub d_Mo_number_99))) (os_n (os_l (so_istore_n d_Mo_number_100 rfl (by decide))) (os_l (so_aload_n d_Mo_number_101 rfl)))) (os_n (os_n (os_l (so_dup d_Mo_number_102)) (os_l (so_get (C := R_Mo) (T := F_Mo) (N := 87) (j := 21) in_Mo rfl (by decide) mw_1815 d_Mo_number_103))) (os_n (os_l (so_iconst d_Mo_number_106 (by decide))) (os_n (os_l (so_iadd d_Mo_number_107)) (os_l (so_putI (C := R_Mo) (T := F_Mo) (N := 87) (j := 21) in_Mo t_Mo_ok n_Mo rfl (by decide) mw_1815 rfl (by decide +kernel) d_Mo_number_108)))))) (os_n (os_n (os_n (os_l (so_goto d_Mo_number_111 (by decide))) (os_l (so_aload_n d_Mo_number_114 rfl))) (os_n (os_l (so_get (C := R_Mo) (T := F_Mo) (N := 87) (j := 21) in_Mo rfl (by decide) mw_1815 d_Mo_number_115)) (os_l (so_iload_n d_Mo_number_118 rfl)))) (os_n (os_n (os_l (so_icne d_Mo_number_119 (by decide))) (os_l (so_bipush d_Mo_number_122 (by decide)))) (os_n (os_l (so_goto d_Mo_number_124 (by decide))) (os_n (os_l (so_iload_n d_Mo_number_127 rfl)) (os_l (so_ireturn rfl d_Mo_number_128)))))))))
abbrev t_Mo_planLine_206 : List UInt8 := 172 :: []
abbrev t_Mo_planLine_205 : List UInt8 := 2 :: t_Mo_planLine_206
abbrev t_Mo_planLine_202 : List UInt8 := 167 :: 0 :: 4 :: t_Mo_planLine_205
abbrev t_Mo_planLine_201 : List UInt8 := 27 :: t_Mo_planLine_202
abbrev t_Mo_planLine_198 : List UInt8 := 160 :: 0 :: 7 :: t_Mo_planLine_201
abbrev t_Mo_planLine_196 : List UInt8 := 16 :: 10 :: t_Mo_planLine_198
abbrev t_Mo_planLine_193 : List UInt8 := 182 :: 0 :: 237 :: t_Mo_planLine_196
abbrev t_Mo_planLine_192 : List UInt8 := 42 :: t_Mo_planLine_193
abbrev t_Mo_planLine_189 : List UInt8 := 159 :: 0 :: 16 :: t_Mo_planLine_192
abbrev t_Mo_planLine_188 : List UInt8 := 2 :: t_Mo_planLine_189
abbrev t_Mo_planLine_187 : List UInt8 := 27 :: t_Mo_planLine_188
abbrev t_Mo_planLine_184 : List UInt8 := 167 :: 255 :: 210 :: t_Mo_planLine_187
abbrev t_Mo_planLine_181 : List UInt8 := 132 :: 3 :: 1 :: t_Mo_planLine_184
abbrev t_Mo_planLine_180 : List UInt8 := 172 :: t_Mo_planLine_181
abbrev t_Mo_planLine_179 : List UInt8 := 2 :: t_Mo_planLine_180
abbrev t_Mo_planLine_176 : List UInt8 := 160 :: 0 :: 5 :: t_Mo_planLine_179
abbrev t_Mo_planLine_174 : List UInt8 := 16 :: 254 :: t_Mo_planLine_176
abbrev t_Mo_planLine_173 : List UInt8 := 46 :: t_Mo_planLine_174
abbrev t_Mo_planLine_172 : List UInt8 := 29 :: t_Mo_planLine_173
abbrev t_Mo_planLine_169 : List UInt8 := 180 :: 0 :: 74 :: t_Mo_planLine_172
abbrev t_Mo_planLine_168 : List UInt8 := 42 :: t_Mo_planLine_169
abbrev t_Mo_planLine_167 : List UInt8 := 79 :: t_Mo_planLine_168
abbrev t_Mo_planLine_164 : List UInt8 := 182 :: 1 :: 1 :: t_Mo_planLine_167
abbrev t_Mo_planLine_163 : List UInt8 := 3 :: t_Mo_planLine_164
abbrev t_Mo_planLine_160 : List UInt8 := 167 :: 0 :: 4 :: t_Mo_planLine_163
abbrev t_Mo_planLine_159 : List UInt8 := 4 :: t_Mo_planLine_160
abbrev t_Mo_planLine_156 : List UInt8 := 162 :: 0 :: 7 :: t_Mo_planLine_159
abbrev t_Mo_planLine_155 : List UInt8 := 5 :: t_Mo_planLine_156
abbrev t_Mo_planLine_154 : List UInt8 := 29 :: t_Mo_planLine_155
abbrev t_Mo_planLine_151 : List UInt8 := 160 :: 0 :: 12 :: t_Mo_planLine_154
abbrev t_Mo_planLine_150 : List UInt8 := 6 :: t_Mo_planLine_151
abbrev t_Mo_planLine_149 : List UInt8 := 27 :: t_Mo_planLine_150
abbrev t_Mo_planLine_148 : List UInt8 := 42 :: t_Mo_planLine_149
abbrev t_Mo_planLine_147 : List UInt8 := 29 :: t_Mo_planLine_148
abbrev t_Mo_planLine_144 : List UInt8 := 180 :: 0 :: 74 :: t_Mo_planLine_147
abbrev t_Mo_planLine_143 : List UInt8 := 42 :: t_Mo_planLine_144
abbrev t_Mo_planLine_140 : List UInt8 := 162 :: 0 :: 47 :: t_Mo_planLine_143
abbrev t_Mo_planLine_139 : List UInt8 := 28 :: t_Mo_planLine_140
abbrev t_Mo_planLine_138 : List UInt8 := 29 :: t_Mo_planLine_139
abbrev t_Mo_planLine_137 : List UInt8 := 62 :: t_Mo_planLine_138
abbrev t_Mo_planLine_136 : List UInt8 := 3 :: t_Mo_planLine_137
abbrev t_Mo_planLine_135 : List UInt8 := 61 :: t_Mo_planLine_136
abbrev t_Mo_planLine_134 : List UInt8 := 4 :: t_Mo_planLine_135
abbrev t_Mo_planLine_131 : List UInt8 := 167 :: 0 :: 4 :: t_Mo_planLine_134
abbrev t_Mo_planLine_130 : List UInt8 := 6 :: t_Mo_planLine_131
abbrev t_Mo_planLine_127 : List UInt8 := 160 :: 0 :: 7 :: t_Mo_planLine_130
abbrev t_Mo_planLine_126 : List UInt8 := 6 :: t_Mo_planLine_127
abbrev t_Mo_planLine_125 : List UInt8 := 27 :: t_Mo_planLine_126
abbrev t_Mo_planLine_122 : List UInt8 := 167 :: 0 :: 13 :: t_Mo_planLine_125
abbrev t_Mo_planLine_121 : List UInt8 := 3 :: t_Mo_planLine_122
abbrev t_Mo_planLine_118 : List UInt8 := 160 :: 0 :: 7 :: t_Mo_planLine_121
abbrev t_Mo_planLine_117 : List UInt8 := 4 :: t_Mo_planLine_118
abbrev t_Mo_planLine_116 : List UInt8 := 27 :: t_Mo_planLine_117
abbrev t_Mo_planLine_113 : List UInt8 := 159 :: 0 :: 8 :: t_Mo_planLine_116
abbrev t_Mo_planLine_112 : List UInt8 := 2 :: t_Mo_planLine_113
abbrev t_Mo_planLine_111 : List UInt8 := 27 :: t_Mo_planLine_112
abbrev t_Mo_planLine_110 : List UInt8 := 60 :: t_Mo_planLine_111
abbrev t_Mo_planLine_109 : List UInt8 := 2 :: t_Mo_planLine_110
abbrev t_Mo_planLine_106 : List UInt8 := 167 :: 0 :: 4 :: t_Mo_planLine_109
abbrev t_Mo_planLine_105 : List UInt8 := 6 :: t_Mo_planLine_106
abbrev t_Mo_planLine_102 : List UInt8 := 153 :: 0 :: 7 :: t_Mo_planLine_105
abbrev t_Mo_planLine_99 : List UInt8 := 182 :: 0 :: 244 :: t_Mo_planLine_102
abbrev t_Mo_planLine_96 : List UInt8 := 20 :: 0 :: 255 :: t_Mo_planLine_99
abbrev t_Mo_planLine_95 : List UInt8 := 42 :: t_Mo_planLine_96
abbrev t_Mo_planLine_92 : List UInt8 := 167 :: 0 :: 18 :: t_Mo_planLine_95
abbrev t_Mo_planLine_91 : List UInt8 := 2 :: t_Mo_planLine_92
abbrev t_Mo_planLine_88 : List UInt8 := 167 :: 0 :: 22 :: t_Mo_planLine_91
abbrev t_Mo_planLine_87 : List UInt8 := 4 :: t_Mo_planLine_88
abbrev t_Mo_planLine_84 : List UInt8 := 153 :: 0 :: 7 :: t_Mo_planLine_87
abbrev t_Mo_planLine_81 : List UInt8 := 182 :: 0 :: 244 :: t_Mo_planLine_84
abbrev t_Mo_planLine_78 : List UInt8 := 20 :: 0 :: 253 :: t_Mo_planLine_81
abbrev t_Mo_planLine_77 : List UInt8 := 42 :: t_Mo_planLine_78
abbrev t_Mo_planLine_74 : List UInt8 := 160 :: 0 :: 21 :: t_Mo_planLine_77
abbrev t_Mo_planLine_72 : List UInt8 := 16 :: 117 :: t_Mo_planLine_74
abbrev t_Mo_planLine_69 : List UInt8 := 182 :: 0 :: 237 :: t_Mo_planLine_72
abbrev t_Mo_planLine_68 : List UInt8 := 42 :: t_Mo_planLine_69
abbrev t_Mo_planLine_65 : List UInt8 := 153 :: 0 :: 46 :: t_Mo_planLine_68
abbrev t_Mo_planLine_62 : List UInt8 := 182 :: 0 :: 244 :: t_Mo_planLine_65
abbrev t_Mo_planLine_59 : List UInt8 := 20 :: 0 :: 251 :: t_Mo_planLine_62
abbrev t_Mo_planLine_58 : List UInt8 := 42 :: t_Mo_planLine_59
abbrev t_Mo_planLine_55 : List UInt8 := 167 :: 0 :: 56 :: t_Mo_planLine_58
abbrev t_Mo_planLine_54 : List UInt8 := 60 :: t_Mo_planLine_55
abbrev t_Mo_planLine_53 : List UInt8 := 2 :: t_Mo_planLine_54
abbrev t_Mo_planLine_50 : List UInt8 := 167 :: 0 :: 4 :: t_Mo_planLine_53
abbrev t_Mo_planLine_49 : List UInt8 := 5 :: t_Mo_planLine_50
abbrev t_Mo_planLine_46 : List UInt8 := 153 :: 0 :: 7 :: t_Mo_planLine_49
abbrev t_Mo_planLine_43 : List UInt8 := 182 :: 0 :: 244 :: t_Mo_planLine_46
abbrev t_Mo_planLine_40 : List UInt8 := 20 :: 0 :: 249 :: t_Mo_planLine_43
abbrev t_Mo_planLine_39 : List UInt8 := 42 :: t_Mo_planLine_40
abbrev t_Mo_planLine_36 : List UInt8 := 160 :: 0 :: 22 :: t_Mo_planLine_39
abbrev t_Mo_planLine_34 : List UInt8 := 16 :: 118 :: t_Mo_planLine_36
abbrev t_Mo_planLine_31 : List UInt8 := 182 :: 0 :: 237 :: t_Mo_planLine_34
abbrev t_Mo_planLine_30 : List UInt8 := 42 :: t_Mo_planLine_31
abbrev t_Mo_planLine_27 : List UInt8 := 167 :: 0 :: 84 :: t_Mo_planLine_30
abbrev t_Mo_planLine_26 : List UInt8 := 60 :: t_Mo_planLine_27
abbrev t_Mo_planLine_25 : List UInt8 := 2 :: t_Mo_planLine_26
abbrev t_Mo_planLine_22 : List UInt8 := 167 :: 0 :: 4 :: t_Mo_planLine_25
abbrev t_Mo_planLine_21 : List UInt8 := 3 :: t_Mo_planLine_22
abbrev t_Mo_planLine_18 : List UInt8 := 153 :: 0 :: 7 :: t_Mo_planLine_21
abbrev t_Mo_planLine_15 : List UInt8 := 182 :: 0 :: 244 :: t_Mo_planLine_18
abbrev t_Mo_planLine_12 : List UInt8 := 20 :: 0 :: 247 :: t_Mo_planLine_15
abbrev t_Mo_planLine_11 : List UInt8 := 42 :: t_Mo_planLine_12
abbrev t_Mo_planLine_8 : List UInt8 := 160 :: 0 :: 22 :: t_Mo_planLine_11
abbrev t_Mo_planLine_6 : List UInt8 := 16 :: 116 :: t_Mo_planLine_8
abbrev t_Mo_planLine_3 : List UInt8 := 182 :: 0 :: 237 :: t_Mo_planLine_6
abbrev t_Mo_planLine_2 : List UInt8 := 42 :: t_Mo_planLine_3
abbrev t_Mo_planLine_1 : List UInt8 := 60 :: t_Mo_planLine_2
abbrev t_Mo_planLine_0 : List UInt8 := 2 :: t_Mo_planLine_1
theorem a_Mo_planLine_0 : dk_at b_Mo_planLine 0 t_Mo_planLine_0 := dk_start (by decide +kernel)
theorem a_Mo_planLine_1 : dk_at b_Mo_planLine 1 t_Mo_planLine_1 := dk_go 1 a_Mo_planLine_0 rfl
theorem a_Mo_planLine_2 : dk_at b_Mo_planLine 2 t_Mo_planLine_2 := dk_go 1 a_Mo_planLine_1 rfl
theorem a_Mo_planLine_3 : dk_at b_Mo_planLine 3 t_Mo_planLine_3 := dk_go 1 a_Mo_planLine_2 rfl
theorem a_Mo_planLine_6 : dk_at b_Mo_planLine 6 t_Mo_planLine_6 := dk_go 3 a_Mo_planLine_3 rfl
theorem a_Mo_planLine_8 : dk_at b_Mo_planLine 8 t_Mo_planLine_8 := dk_go 2 a_Mo_planLine_6 rfl
theorem a_Mo_planLine_11 : dk_at b_Mo_planLine 11 t_Mo_planLine_11 := dk_go 3 a_Mo_planLine_8 rfl
theorem a_Mo_planLine_12 : dk_at b_Mo_planLine 12 t_Mo_planLine_12 := dk_go 1 a_Mo_planLine_11 rfl
theorem a_Mo_planLine_15 : dk_at b_Mo_planLine 15 t_Mo_planLine_15 := dk_go 3 a_Mo_planLine_12 rfl
theorem a_Mo_planLine_18 : dk_at b_Mo_planLine 18 t_Mo_planLine_18 := dk_go 3 a_Mo_planLine_15 rfl
theorem a_Mo_planLine_21 : dk_at b_Mo_planLine 21 t_Mo_planLine_21 := dk_go 3 a_Mo_planLine_18 rfl
theorem a_Mo_planLine_22 : dk_at b_Mo_planLine 22 t_Mo_planLine_22 := dk_go 1 a_Mo_planLine_21 rfl
theorem a_Mo_planLine_25 : dk_at b_Mo_planLine 25 t_Mo_planLine_25 := dk_go 3 a_Mo_planLine_22 rfl
theorem a_Mo_planLine_26 : dk_at b_Mo_planLine 26 t_Mo_planLine_26 := dk_go 1 a_Mo_planLine_25 rfl
theorem a_Mo_planLine_27 : dk_at b_Mo_planLine 27 t_Mo_planLine_27 := dk_go 1 a_Mo_planLine_26 rfl
theorem a_Mo_planLine_30 : dk_at b_Mo_planLine 30 t_Mo_planLine_30 := dk_go 3 a_Mo_planLine_27 rfl
theorem a_Mo_planLine_31 : dk_at b_Mo_planLine 31 t_Mo_planLine_31 := dk_go 1 a_Mo_planLine_30 rfl
theorem a_Mo_planLine_34 : dk_at b_Mo_planLine 34 t_Mo_planLine_34 := dk_go 3 a_Mo_planLine_31 rfl
theorem a_Mo_planLine_36 : dk_at b_Mo_planLine 36 t_Mo_planLine_36 := dk_go 2 a_Mo_planLine_34 rfl
theorem a_Mo_planLine_39 : dk_at b_Mo_planLine 39 t_Mo_planLine_39 := dk_go 3 a_Mo_planLine_36 rfl
theorem a_Mo_planLine_40 : dk_at b_Mo_planLine 40 t_Mo_planLine_40 := dk_go 1 a_Mo_planLine_39 rfl
theorem a_Mo_planLine_43 : dk_at b_Mo_planLine 43 t_Mo_planLine_43 := dk_go 3 a_Mo_planLine_40 rfl
theorem a_Mo_planLine_46 : dk_at b_Mo_planLine 46 t_Mo_planLine_46 := dk_go 3 a_Mo_planLine_43 rfl
theorem a_Mo_planLine_49 : dk_at b_Mo_planLine 49 t_Mo_planLine_49 := dk_go 3 a_Mo_planLine_46 rfl
theorem a_Mo_planLine_50 : dk_at b_Mo_planLine 50 t_Mo_planLine_50 := dk_go 1 a_Mo_planLine_49 rfl
theorem a_Mo_planLine_53 : dk_at b_Mo_planLine 53 t_Mo_planLine_53 := dk_go 3 a_Mo_planLine_50 rfl
theorem a_Mo_planLine_54 : dk_at b_Mo_planLine 54 t_Mo_planLine_54 := dk_go 1 a_Mo_planLine_53 rfl
theorem a_Mo_planLine_55 : dk_at b_Mo_planLine 55 t_Mo_planLine_55 := dk_go 1 a_Mo_planLine_54 rfl
theorem a_Mo_planLine_58 : dk_at b_Mo_planLine 58 t_Mo_planLine_58 := dk_go 3 a_Mo_planLine_55 rfl
theorem a_Mo_planLine_59 : dk_at b_Mo_planLine 59 t_Mo_planLine_59 := dk_go 1 a_Mo_planLine_58 rfl
theorem a_Mo_planLine_62 : dk_at b_Mo_planLine 62 t_Mo_planLine_62 := dk_go 3 a_Mo_planLine_59 rfl
theorem a_Mo_planLine_65 : dk_at b_Mo_planLine 65 t_Mo_planLine_65 := dk_go 3 a_Mo_planLine_62 rfl
theorem a_Mo_planLine_68 : dk_at b_Mo_planLine 68 t_Mo_planLine_68 := dk_go 3 a_Mo_planLine_65 rfl
theorem a_Mo_planLine_69 : dk_at b_Mo_planLine 69 t_Mo_planLine_69 := dk_go 1 a_Mo_planLine_68 rfl
theorem a_Mo_planLine_72 : dk_at b_Mo_planLine 72 t_Mo_planLine_72 := dk_go 3 a_Mo_planLine_69 rfl
theorem a_Mo_planLine_74 : dk_at b_Mo_planLine 74 t_Mo_planLine_74 := dk_go 2 a_Mo_planLine_72 rfl
theorem a_Mo_planLine_77 : dk_at b_Mo_planLine 77 t_Mo_planLine_77 := dk_go 3 a_Mo_planLine_74 rfl
theorem a_Mo_planLine_78 : dk_at b_Mo_planLine 78 t_Mo_planLine_78 := dk_go 1 a_Mo_planLine_77 rfl
theorem a_Mo_planLine_81 : dk_at b_Mo_planLine 81 t_Mo_planLine_81 := dk_go 3 a_Mo_planLine_78 rfl
theorem a_Mo_planLine_84 : dk_at b_Mo_planLine 84 t_Mo_planLine_84 := dk_go 3 a_Mo_planLine_81 rfl
theorem a_Mo_planLine_87 : dk_at b_Mo_planLine 87 t_Mo_planLine_87 := dk_go 3 a_Mo_planLine_84 rfl
theorem a_Mo_planLine_88 : dk_at b_Mo_planLine 88 t_Mo_planLine_88 := dk_go 1 a_Mo_planLine_87 rfl
theorem a_Mo_planLine_91 : dk_at b_Mo_planLine 91 t_Mo_planLine_91 := dk_go 3 a_Mo_planLine_88 rfl
theorem a_Mo_planLine_92 : dk_at b_Mo_planLine 92 t_Mo_planLine_92 := dk_go 1 a_Mo_planLine_91 rfl
theorem a_Mo_planLine_95 : dk_at b_Mo_planLine 95 t_Mo_planLine_95 := dk_go 3 a_Mo_planLine_92 rfl
theorem a_Mo_planLine_96 : dk_at b_Mo_planLine 96 t_Mo_planLine_96 := dk_go 1 a_Mo_planLine_95 rfl
theorem a_Mo_planLine_99 : dk_at b_Mo_planLine 99 t_Mo_planLine_99 := dk_go 3 a_Mo_planLine_96 rfl
theorem a_Mo_planLine_102 : dk_at b_Mo_planLine 102 t_Mo_planLine_102 := dk_go 3 a_Mo_planLine_99 rfl
theorem a_Mo_planLine_105 : dk_at b_Mo_planLine 105 t_Mo_planLine_105 := dk_go 3 a_Mo_planLine_102 rfl
theorem a_Mo_planLine_106 : dk_at b_Mo_planLine 106 t_Mo_planLine_106 := dk_go 1 a_Mo_planLine_105 rfl
theorem a_Mo_planLine_109 : dk_at b_Mo_planLine 109 t_Mo_planLine_109 := dk_go 3 a_Mo_planLine_106 rfl
theorem a_Mo_planLine_110 : dk_at b_Mo_planLine 110 t_Mo_planLine_110 := dk_go 1 a_Mo_planLine_109 rfl
theorem a_Mo_planLine_111 : dk_at b_Mo_planLine 111 t_Mo_planLine_111 := dk_go 1 a_Mo_planLine_110 rfl
theorem a_Mo_planLine_112 : dk_at b_Mo_planLine 112 t_Mo_planLine_112 := dk_go 1 a_Mo_planLine_111 rfl
theorem a_Mo_planLine_113 : dk_at b_Mo_planLine 113 t_Mo_planLine_113 := dk_go 1 a_Mo_planLine_112 rfl
theorem a_Mo_planLine_116 : dk_at b_Mo_planLine 116 t_Mo_planLine_116 := dk_go 3 a_Mo_planLine_113 rfl
theorem a_Mo_planLine_117 : dk_at b_Mo_planLine 117 t_Mo_planLine_117 := dk_go 1 a_Mo_planLine_116 rfl
theorem a_Mo_planLine_118 : dk_at b_Mo_planLine 118 t_Mo_planLine_118 := dk_go 1 a_Mo_planLine_117 rfl
theorem a_Mo_planLine_121 : dk_at b_Mo_planLine 121 t_Mo_planLine_121 := dk_go 3 a_Mo_planLine_118 rfl
theorem a_Mo_planLine_122 : dk_at b_Mo_planLine 122 t_Mo_planLine_122 := dk_go 1 a_Mo_planLine_121 rfl
theorem a_Mo_planLine_125 : dk_at b_Mo_planLine 125 t_Mo_planLine_125 := dk_go 3 a_Mo_planLine_122 rfl
theorem a_Mo_planLine_126 : dk_at b_Mo_planLine 126 t_Mo_planLine_126 := dk_go 1 a_Mo_planLine_125 rfl
theorem a_Mo_planLine_127 : dk_at b_Mo_planLine 127 t_Mo_planLine_127 := dk_go 1 a_Mo_planLine_126 rfl
theorem a_Mo_planLine_130 : dk_at b_Mo_planLine 130 t_Mo_planLine_130 := dk_go 3 a_Mo_planLine_127 rfl
theorem a_Mo_planLine_131 : dk_at b_Mo_planLine 131 t_Mo_planLine_131 := dk_go 1 a_Mo_planLine_130 rfl
theorem a_Mo_planLine_134 : dk_at b_Mo_planLine 134 t_Mo_planLine_134 := dk_go 3 a_Mo_planLine_131 rfl
theorem a_Mo_planLine_135 : dk_at b_Mo_planLine 135 t_Mo_planLine_135 := dk_go 1 a_Mo_planLine_134 rfl
theorem a_Mo_planLine_136 : dk_at b_Mo_planLine 136 t_Mo_planLine_136 := dk_go 1 a_Mo_planLine_135 rfl
theorem a_Mo_planLine_137 : dk_at b_Mo_planLine 137 t_Mo_planLine_137 := dk_go 1 a_Mo_planLine_136 rfl
theorem a_Mo_planLine_138 : dk_at b_Mo_planLine 138 t_Mo_planLine_138 := dk_go 1 a_Mo_planLine_137 rfl
theorem a_Mo_planLine_139 : dk_at b_Mo_planLine 139 t_Mo_planLine_139 := dk_go 1 a_Mo_planLine_138 rfl
theorem a_Mo_planLine_140 : dk_at b_Mo_planLine 140 t_Mo_planLine_140 := dk_go 1 a_Mo_planLine_139 rfl
theorem a_Mo_planLine_143 : dk_at b_Mo_planLine 143 t_Mo_planLine_143 := dk_go 3 a_Mo_planLine_140 rfl
theorem a_Mo_planLine_144 : dk_at b_Mo_planLine 144 t_Mo_planLine_144 := dk_go 1 a_Mo_planLine_143 rfl
theorem a_Mo_planLine_147 : dk_at b_Mo_planLine 147 t_Mo_planLine_147 := dk_go 3 a_Mo_planLine_144 rfl
theorem a_Mo_planLine_148 : dk_at b_Mo_planLine 148 t_Mo_planLine_148 := dk_go 1 a_Mo_planLine_147 rfl
theorem a_Mo_planLine_149 : dk_at b_Mo_planLine 149 t_Mo_planLine_149 := dk_go 1 a_Mo_planLine_148 rfl
theorem a_Mo_planLine_150 : dk_at b_Mo_planLine 150 t_Mo_planLine_150 := dk_go 1 a_Mo_planLine_149 rfl
theorem a_Mo_planLine_151 : dk_at b_Mo_planLine 151 t_Mo_planLine_151 := dk_go 1 a_Mo_planLine_150 rfl
theorem a_Mo_planLine_154 : dk_at b_Mo_planLine 154 t_Mo_planLine_154 := dk_go 3 a_Mo_planLine_151 rfl
theorem a_Mo_planLine_155 : dk_at b_Mo_planLine 155 t_Mo_planLine_155 := dk_go 1 a_Mo_planLine_154 rfl
theorem a_Mo_planLine_156 : dk_at b_Mo_planLine 156 t_Mo_planLine_156 := dk_go 1 a_Mo_planLine_155 rfl
theorem a_Mo_planLine_159 : dk_at b_Mo_planLine 159 t_Mo_planLine_159 := dk_go 3 a_Mo_planLine_156 rfl
theorem a_Mo_planLine_160 : dk_at b_Mo_planLine 160 t_Mo_planLine_160 := dk_go 1 a_Mo_planLine_159 rfl
theorem a_Mo_planLine_163 : dk_at b_Mo_planLine 163 t_Mo_planLine_163 := dk_go 3 a_Mo_planLine_160 rfl
theorem a_Mo_planLine_164 : dk_at b_Mo_planLine 164 t_Mo_planLine_164 := dk_go 1 a_Mo_planLine_163 rfl
theorem a_Mo_planLine_167 : dk_at b_Mo_planLine 167 t_Mo_planLine_167 := dk_go 3 a_Mo_planLine_164 rfl
theorem a_Mo_planLine_168 : dk_at b_Mo_planLine 168 t_Mo_planLine_168 := dk_go 1 a_Mo_planLine_167 rfl
theorem a_Mo_planLine_169 : dk_at b_Mo_planLine 169 t_Mo_planLine_169 := dk_go 1 a_Mo_planLine_168 rfl
theorem a_Mo_planLine_172 : dk_at b_Mo_planLine 172 t_Mo_planLine_172 := dk_go 3 a_Mo_planLine_169 rfl
theorem a_Mo_planLine_173 : dk_at b_Mo_planLine 173 t_Mo_planLine_173 := dk_go 1 a_Mo_planLine_172 rfl
theorem a_Mo_planLine_174 : dk_at b_Mo_planLine 174 t_Mo_planLine_174 := dk_go 1 a_Mo_planLine_173 rfl
theorem a_Mo_planLine_176 : dk_at b_Mo_planLine 176 t_Mo_planLine_176 := dk_go 2 a_Mo_planLine_174 rfl
theorem a_Mo_planLine_179 : dk_at b_Mo_planLine 179 t_Mo_planLine_179 := dk_go 3 a_Mo_planLine_176 rfl
theorem a_Mo_planLine_180 : dk_at b_Mo_planLine 180 t_Mo_planLine_180 := dk_go 1 a_Mo_planLine_179 rfl
theorem a_Mo_planLine_181 : dk_at b_Mo_planLine 181 t_Mo_planLine_181 := dk_go 1 a_Mo_planLine_180 rfl
theorem a_Mo_planLine_184 : dk_at b_Mo_planLine 184 t_Mo_planLine_184 := dk_go 3 a_Mo_planLine_181 rfl
theorem a_Mo_planLine_187 : dk_at b_Mo_planLine 187 t_Mo_planLine_187 := dk_go 3 a_Mo_planLine_184 rfl
theorem a_Mo_planLine_188 : dk_at b_Mo_planLine 188 t_Mo_planLine_188 := dk_go 1 a_Mo_planLine_187 rfl
theorem a_Mo_planLine_189 : dk_at b_Mo_planLine 189 t_Mo_planLine_189 := dk_go 1 a_Mo_planLine_188 rfl
theorem a_Mo_planLine_192 : dk_at b_Mo_planLine 192 t_Mo_planLine_192 := dk_go 3 a_Mo_planLine_189 rfl
theorem a_Mo_planLine_193 : dk_at b_Mo_planLine 193 t_Mo_planLine_193 := dk_go 1 a_Mo_planLine_192 rfl
theorem a_Mo_planLine_196 : dk_at b_Mo_planLine 196 t_Mo_planLine_196 := dk_go 3 a_Mo_planLine_193 rfl
theorem a_Mo_planLine_198 : dk_at b_Mo_planLine 198 t_Mo_planLine_198 := dk_go 2 a_Mo_planLine_196 rfl
theorem a_Mo_planLine_201 : dk_at b_Mo_planLine 201 t_Mo_planLine_201 := dk_go 3 a_Mo_planLine_198 rfl
theorem a_Mo_planLine_202 : dk_at b_Mo_planLine 202 t_Mo_planLine_202 := dk_go 1 a_Mo_planLine_201 rfl
theorem a_Mo_planLine_205 : dk_at b_Mo_planLine 205 t_Mo_planLine_205 := dk_go 3 a_Mo_planLine_202 rfl
theorem a_Mo_planLine_206 : dk_at b_Mo_planLine 206 t_Mo_planLine_206 := dk_go 1 a_Mo_planLine_205 rfl
theorem d_Mo_planLine_0 : decode b_Mo_planLine 0 = .ok (.iconst (-1), 1) := dk_0 a_Mo_planLine_0 (dko_2 _)
theorem d_Mo_planLine_1 : decode b_Mo_planLine 1 = .ok (.istore_n 1, 1) := dk_0 a_Mo_planLine_1 (dko_60 _)
theorem d_Mo_planLine_2 : decode b_Mo_planLine 2 = .ok (.aload_n 0, 1) := dk_0 a_Mo_planLine_2 (dko_42 _)
theorem d_Mo_planLine_3 : decode b_Mo_planLine 3 = .ok (.invokevirtual 237, 3) := dk_U2 a_Mo_planLine_3 (dko_182 _) rfl
theorem d_Mo_planLine_6 : decode b_Mo_planLine 6 = .ok (.bipush 116, 2) := dk_S1 a_Mo_planLine_6 (dko_16 _) (by decide +kernel)
theorem d_Mo_planLine_8 : decode b_Mo_planLine 8 = .ok (.if_icmp .ne 22, 3) := dk_S2 a_Mo_planLine_8 (dko_160 _) (by decide +kernel)
theorem d_Mo_planLine_11 : decode b_Mo_planLine 11 = .ok (.aload_n 0, 1) := dk_0 a_Mo_planLine_11 (dko_42 _)
theorem d_Mo_planLine_12 : decode b_Mo_planLine 12 = .ok (.ldc2_w 247, 3) := dk_U2 a_Mo_planLine_12 (dko_20 _) rfl
theorem d_Mo_planLine_15 : decode b_Mo_planLine 15 = .ok (.invokevirtual 244, 3) := dk_U2 a_Mo_planLine_15 (dko_182 _) rfl
theorem d_Mo_planLine_18 : decode b_Mo_planLine 18 = .ok (.ifCond .eq 7, 3) := dk_S2 a_Mo_planLine_18 (dko_153 _) (by decide +kernel)
theorem d_Mo_planLine_21 : decode b_Mo_planLine 21 = .ok (.iconst 0, 1) := dk_0 a_Mo_planLine_21 (dko_3 _)
theorem d_Mo_planLine_22 : decode b_Mo_planLine 22 = .ok (.goto 4, 3) := dk_S2 a_Mo_planLine_22 (dko_167 _) (by decide +kernel)
theorem d_Mo_planLine_25 : decode b_Mo_planLine 25 = .ok (.iconst (-1), 1) := dk_0 a_Mo_planLine_25 (dko_2 _)
theorem d_Mo_planLine_26 : decode b_Mo_planLine 26 = .ok (.istore_n 1, 1) := dk_0 a_Mo_planLine_26 (dko_60 _)
theorem d_Mo_planLine_27 : decode b_Mo_planLine 27 = .ok (.goto 84, 3) := dk_S2 a_Mo_planLine_27 (dko_167 _) (by decide +kernel)
theorem d_Mo_planLine_30 : decode b_Mo_planLine 30 = .ok (.aload_n 0, 1) := dk_0 a_Mo_planLine_30 (dko_42 _)
theorem d_Mo_planLine_31 : decode b_Mo_planLine 31 = .ok (.invokevirtual 237, 3) := dk_U2 a_Mo_planLine_31 (dko_182 _) rfl
theorem d_Mo_planLine_34 : decode b_Mo_planLine 34 = .ok (.bipush 118, 2) := dk_S1 a_Mo_planLine_34 (dko_16 _) (by decide +kernel)
theorem d_Mo_planLine_36 : decode b_Mo_planLine 36 = .ok (.if_icmp .ne 22, 3) := dk_S2 a_Mo_planLine_36 (dko_160 _) (by decide +kernel)
theorem d_Mo_planLine_39 : decode b_Mo_planLine 39 = .ok (.aload_n 0, 1) := dk_0 a_Mo_planLine_39 (dko_42 _)
theorem d_Mo_planLine_40 : decode b_Mo_planLine 40 = .ok (.ldc2_w 249, 3) := dk_U2 a_Mo_planLine_40 (dko_20 _) rfl
theorem d_Mo_planLine_43 : decode b_Mo_planLine 43 = .ok (.invokevirtual 244, 3) := dk_U2 a_Mo_planLine_43 (dko_182 _) rfl
theorem d_Mo_planLine_46 : decode b_Mo_planLine 46 = .ok (.ifCond .eq 7, 3) := dk_S2 a_Mo_planLine_46 (dko_153 _) (by decide +kernel)
theorem d_Mo_planLine_49 : decode b_Mo_planLine 49 = .ok (.iconst 2, 1) := dk_0 a_Mo_planLine_49 (dko_5 _)
theorem d_Mo_planLine_50 : decode b_Mo_planLine 50 = .ok (.goto 4, 3) := dk_S2 a_Mo_planLine_50 (dko_167 _) (by decide +kernel)
theorem d_Mo_planLine_53 : decode b_Mo_planLine 53 = .ok (.iconst (-1), 1) := dk_0 a_Mo_planLine_53 (dko_2 _)
theorem d_Mo_planLine_54 : decode b_Mo_planLine 54 = .ok (.istore_n 1, 1) := dk_0 a_Mo_planLine_54 (dko_60 _)
theorem d_Mo_planLine_55 : decode b_Mo_planLine 55 = .ok (.goto 56, 3) := dk_S2 a_Mo_planLine_55 (dko_167 _) (by decide +kernel)
theorem d_Mo_planLine_58 : decode b_Mo_planLine 58 = .ok (.aload_n 0, 1) := dk_0 a_Mo_planLine_58 (dko_42 _)
theorem d_Mo_planLine_59 : decode b_Mo_planLine 59 = .ok (.ldc2_w 251, 3) := dk_U2 a_Mo_planLine_59 (dko_20 _) rfl
theorem d_Mo_planLine_62 : decode b_Mo_planLine 62 = .ok (.invokevirtual 244, 3) := dk_U2 a_Mo_planLine_62 (dko_182 _) rfl
theorem d_Mo_planLine_65 : decode b_Mo_planLine 65 = .ok (.ifCond .eq 46, 3) := dk_S2 a_Mo_planLine_65 (dko_153 _) (by decide +kernel)
theorem d_Mo_planLine_68 : decode b_Mo_planLine 68 = .ok (.aload_n 0, 1) := dk_0 a_Mo_planLine_68 (dko_42 _)
theorem d_Mo_planLine_69 : decode b_Mo_planLine 69 = .ok (.invokevirtual 237, 3) := dk_U2 a_Mo_planLine_69 (dko_182 _) rfl
theorem d_Mo_planLine_72 : decode b_Mo_planLine 72 = .ok (.bipush 117, 2) := dk_S1 a_Mo_planLine_72 (dko_16 _) (by decide +kernel)
theorem d_Mo_planLine_74 : decode b_Mo_planLine 74 = .ok (.if_icmp .ne 21, 3) := dk_S2 a_Mo_planLine_74 (dko_160 _) (by decide +kernel)
theorem d_Mo_planLine_77 : decode b_Mo_planLine 77 = .ok (.aload_n 0, 1) := dk_0 a_Mo_planLine_77 (dko_42 _)
theorem d_Mo_planLine_78 : decode b_Mo_planLine 78 = .ok (.ldc2_w 253, 3) := dk_U2 a_Mo_planLine_78 (dko_20 _) rfl
theorem d_Mo_planLine_81 : decode b_Mo_planLine 81 = .ok (.invokevirtual 244, 3) := dk_U2 a_Mo_planLine_81 (dko_182 _) rfl
theorem d_Mo_planLine_84 : decode b_Mo_planLine 84 = .ok (.ifCond .eq 7, 3) := dk_S2 a_Mo_planLine_84 (dko_153 _) (by decide +kernel)
theorem d_Mo_planLine_87 : decode b_Mo_planLine 87 = .ok (.iconst 1, 1) := dk_0 a_Mo_planLine_87 (dko_4 _)
theorem d_Mo_planLine_88 : decode b_Mo_planLine 88 = .ok (.goto 22, 3) := dk_S2 a_Mo_planLine_88 (dko_167 _) (by decide +kernel)
theorem d_Mo_planLine_91 : decode b_Mo_planLine 91 = .ok (.iconst (-1), 1) := dk_0 a_Mo_planLine_91 (dko_2 _)
theorem d_Mo_planLine_92 : decode b_Mo_planLine 92 = .ok (.goto 18, 3) := dk_S2 a_Mo_planLine_92 (dko_167 _) (by decide +kernel)
theorem d_Mo_planLine_95 : decode b_Mo_planLine 95 = .ok (.aload_n 0, 1) := dk_0 a_Mo_planLine_95 (dko_42 _)
theorem d_Mo_planLine_96 : decode b_Mo_planLine 96 = .ok (.ldc2_w 255, 3) := dk_U2 a_Mo_planLine_96 (dko_20 _) rfl
theorem d_Mo_planLine_99 : decode b_Mo_planLine 99 = .ok (.invokevirtual 244, 3) := dk_U2 a_Mo_planLine_99 (dko_182 _) rfl
theorem d_Mo_planLine_102 : decode b_Mo_planLine 102 = .ok (.ifCond .eq 7, 3) := dk_S2 a_Mo_planLine_102 (dko_153 _) (by decide +kernel)
theorem d_Mo_planLine_105 : decode b_Mo_planLine 105 = .ok (.iconst 3, 1) := dk_0 a_Mo_planLine_105 (dko_6 _)
theorem d_Mo_planLine_106 : decode b_Mo_planLine 106 = .ok (.goto 4, 3) := dk_S2 a_Mo_planLine_106 (dko_167 _) (by decide +kernel)
theorem d_Mo_planLine_109 : decode b_Mo_planLine 109 = .ok (.iconst (-1), 1) := dk_0 a_Mo_planLine_109 (dko_2 _)
theorem d_Mo_planLine_110 : decode b_Mo_planLine 110 = .ok (.istore_n 1, 1) := dk_0 a_Mo_planLine_110 (dko_60 _)
theorem d_Mo_planLine_111 : decode b_Mo_planLine 111 = .ok (.iload_n 1, 1) := dk_0 a_Mo_planLine_111 (dko_27 _)
theorem d_Mo_planLine_112 : decode b_Mo_planLine 112 = .ok (.iconst (-1), 1) := dk_0 a_Mo_planLine_112 (dko_2 _)
theorem d_Mo_planLine_113 : decode b_Mo_planLine 113 = .ok (.if_icmp .eq 8, 3) := dk_S2 a_Mo_planLine_113 (dko_159 _) (by decide +kernel)
theorem d_Mo_planLine_116 : decode b_Mo_planLine 116 = .ok (.iload_n 1, 1) := dk_0 a_Mo_planLine_116 (dko_27 _)
theorem d_Mo_planLine_117 : decode b_Mo_planLine 117 = .ok (.iconst 1, 1) := dk_0 a_Mo_planLine_117 (dko_4 _)
theorem d_Mo_planLine_118 : decode b_Mo_planLine 118 = .ok (.if_icmp .ne 7, 3) := dk_S2 a_Mo_planLine_118 (dko_160 _) (by decide +kernel)
theorem d_Mo_planLine_121 : decode b_Mo_planLine 121 = .ok (.iconst 0, 1) := dk_0 a_Mo_planLine_121 (dko_3 _)
theorem d_Mo_planLine_122 : decode b_Mo_planLine 122 = .ok (.goto 13, 3) := dk_S2 a_Mo_planLine_122 (dko_167 _) (by decide +kernel)
theorem d_Mo_planLine_125 : decode b_Mo_planLine 125 = .ok (.iload_n 1, 1) := dk_0 a_Mo_planLine_125 (dko_27 _)
theorem d_Mo_planLine_126 : decode b_Mo_planLine 126 = .ok (.iconst 3, 1) := dk_0 a_Mo_planLine_126 (dko_6 _)
theorem d_Mo_planLine_127 : decode b_Mo_planLine 127 = .ok (.if_icmp .ne 7, 3) := dk_S2 a_Mo_planLine_127 (dko_160 _) (by decide +kernel)
theorem d_Mo_planLine_130 : decode b_Mo_planLine 130 = .ok (.iconst 3, 1) := dk_0 a_Mo_planLine_130 (dko_6 _)
theorem d_Mo_planLine_131 : decode b_Mo_planLine 131 = .ok (.goto 4, 3) := dk_S2 a_Mo_planLine_131 (dko_167 _) (by decide +kernel)
theorem d_Mo_planLine_134 : decode b_Mo_planLine 134 = .ok (.iconst 1, 1) := dk_0 a_Mo_planLine_134 (dko_4 _)
theorem d_Mo_planLine_135 : decode b_Mo_planLine 135 = .ok (.istore_n 2, 1) := dk_0 a_Mo_planLine_135 (dko_61 _)
theorem d_Mo_planLine_136 : decode b_Mo_planLine 136 = .ok (.iconst 0, 1) := dk_0 a_Mo_planLine_136 (dko_3 _)
theorem d_Mo_planLine_137 : decode b_Mo_planLine 137 = .ok (.istore_n 3, 1) := dk_0 a_Mo_planLine_137 (dko_62 _)
theorem d_Mo_planLine_138 : decode b_Mo_planLine 138 = .ok (.iload_n 3, 1) := dk_0 a_Mo_planLine_138 (dko_29 _)
theorem d_Mo_planLine_139 : decode b_Mo_planLine 139 = .ok (.iload_n 2, 1) := dk_0 a_Mo_planLine_139 (dko_28 _)
theorem d_Mo_planLine_140 : decode b_Mo_planLine 140 = .ok (.if_icmp .ge 47, 3) := dk_S2 a_Mo_planLine_140 (dko_162 _) (by decide +kernel)
theorem d_Mo_planLine_143 : decode b_Mo_planLine 143 = .ok (.aload_n 0, 1) := dk_0 a_Mo_planLine_143 (dko_42 _)
theorem d_Mo_planLine_144 : decode b_Mo_planLine 144 = .ok (.getfield 74, 3) := dk_U2 a_Mo_planLine_144 (dko_180 _) rfl
theorem d_Mo_planLine_147 : decode b_Mo_planLine 147 = .ok (.iload_n 3, 1) := dk_0 a_Mo_planLine_147 (dko_29 _)
theorem d_Mo_planLine_148 : decode b_Mo_planLine 148 = .ok (.aload_n 0, 1) := dk_0 a_Mo_planLine_148 (dko_42 _)
theorem d_Mo_planLine_149 : decode b_Mo_planLine 149 = .ok (.iload_n 1, 1) := dk_0 a_Mo_planLine_149 (dko_27 _)
theorem d_Mo_planLine_150 : decode b_Mo_planLine 150 = .ok (.iconst 3, 1) := dk_0 a_Mo_planLine_150 (dko_6 _)
theorem d_Mo_planLine_151 : decode b_Mo_planLine 151 = .ok (.if_icmp .ne 12, 3) := dk_S2 a_Mo_planLine_151 (dko_160 _) (by decide +kernel)
theorem d_Mo_planLine_154 : decode b_Mo_planLine 154 = .ok (.iload_n 3, 1) := dk_0 a_Mo_planLine_154 (dko_29 _)
theorem d_Mo_planLine_155 : decode b_Mo_planLine 155 = .ok (.iconst 2, 1) := dk_0 a_Mo_planLine_155 (dko_5 _)
theorem d_Mo_planLine_156 : decode b_Mo_planLine 156 = .ok (.if_icmp .ge 7, 3) := dk_S2 a_Mo_planLine_156 (dko_162 _) (by decide +kernel)
theorem d_Mo_planLine_159 : decode b_Mo_planLine 159 = .ok (.iconst 1, 1) := dk_0 a_Mo_planLine_159 (dko_4 _)
theorem d_Mo_planLine_160 : decode b_Mo_planLine 160 = .ok (.goto 4, 3) := dk_S2 a_Mo_planLine_160 (dko_167 _) (by decide +kernel)
theorem d_Mo_planLine_163 : decode b_Mo_planLine 163 = .ok (.iconst 0, 1) := dk_0 a_Mo_planLine_163 (dko_3 _)
theorem d_Mo_planLine_164 : decode b_Mo_planLine 164 = .ok (.invokevirtual 257, 3) := dk_U2 a_Mo_planLine_164 (dko_182 _) rfl
theorem d_Mo_planLine_167 : decode b_Mo_planLine 167 = .ok (.iastore, 1) := dk_0 a_Mo_planLine_167 (dko_79 _)
theorem d_Mo_planLine_168 : decode b_Mo_planLine 168 = .ok (.aload_n 0, 1) := dk_0 a_Mo_planLine_168 (dko_42 _)
theorem d_Mo_planLine_169 : decode b_Mo_planLine 169 = .ok (.getfield 74, 3) := dk_U2 a_Mo_planLine_169 (dko_180 _) rfl
theorem d_Mo_planLine_172 : decode b_Mo_planLine 172 = .ok (.iload_n 3, 1) := dk_0 a_Mo_planLine_172 (dko_29 _)
theorem d_Mo_planLine_173 : decode b_Mo_planLine 173 = .ok (.iaload, 1) := dk_0 a_Mo_planLine_173 (dko_46 _)
theorem d_Mo_planLine_174 : decode b_Mo_planLine 174 = .ok (.bipush (-2), 2) := dk_S1 a_Mo_planLine_174 (dko_16 _) (by decide +kernel)
theorem d_Mo_planLine_176 : decode b_Mo_planLine 176 = .ok (.if_icmp .ne 5, 3) := dk_S2 a_Mo_planLine_176 (dko_160 _) (by decide +kernel)
theorem d_Mo_planLine_179 : decode b_Mo_planLine 179 = .ok (.iconst (-1), 1) := dk_0 a_Mo_planLine_179 (dko_2 _)
theorem d_Mo_planLine_180 : decode b_Mo_planLine 180 = .ok (.ireturn, 1) := dk_0 a_Mo_planLine_180 (dko_172 _)
theorem d_Mo_planLine_181 : decode b_Mo_planLine 181 = .ok (.iinc 3 1, 3) := dk_US a_Mo_planLine_181 (dko_132 _) (by decide +kernel)
theorem d_Mo_planLine_184 : decode b_Mo_planLine 184 = .ok (.goto (-46), 3) := dk_S2 a_Mo_planLine_184 (dko_167 _) (by decide +kernel)
theorem d_Mo_planLine_187 : decode b_Mo_planLine 187 = .ok (.iload_n 1, 1) := dk_0 a_Mo_planLine_187 (dko_27 _)
theorem d_Mo_planLine_188 : decode b_Mo_planLine 188 = .ok (.iconst (-1), 1) := dk_0 a_Mo_planLine_188 (dko_2 _)
theorem d_Mo_planLine_189 : decode b_Mo_planLine 189 = .ok (.if_icmp .eq 16, 3) := dk_S2 a_Mo_planLine_189 (dko_159 _) (by decide +kernel)
theorem d_Mo_planLine_192 : decode b_Mo_planLine 192 = .ok (.aload_n 0, 1) := dk_0 a_Mo_planLine_192 (dko_42 _)
theorem d_Mo_planLine_193 : decode b_Mo_planLine 193 = .ok (.invokevirtual 237, 3) := dk_U2 a_Mo_planLine_193 (dko_182 _) rfl
theorem d_Mo_planLine_196 : decode b_Mo_planLine 196 = .ok (.bipush 10, 2) := dk_S1 a_Mo_planLine_196 (dko_16 _) (by decide +kernel)
theorem d_Mo_planLine_198 : decode b_Mo_planLine 198 = .ok (.if_icmp .ne 7, 3) := dk_S2 a_Mo_planLine_198 (dko_160 _) (by decide +kernel)
theorem d_Mo_planLine_201 : decode b_Mo_planLine 201 = .ok (.iload_n 1, 1) := dk_0 a_Mo_planLine_201 (dko_27 _)
theorem d_Mo_planLine_202 : decode b_Mo_planLine 202 = .ok (.goto 4, 3) := dk_S2 a_Mo_planLine_202 (dko_167 _) (by decide +kernel)
theorem d_Mo_planLine_205 : decode b_Mo_planLine 205 = .ok (.iconst (-1), 1) := dk_0 a_Mo_planLine_205 (dko_2 _)
theorem d_Mo_planLine_206 : decode b_Mo_planLine 206 = .ok (.ireturn, 1) := dk_0 a_Mo_planLine_206 (dko_172 _)
set_option maxHeartbeats 4000000 in
set_option maxRecDepth 100000 in
theorem ok_Mo_planLine (pc : Nat) : OpS mt mi_Mo_planLine pc (cs_Mo_planLine pc) := (os_n (os_n (os_n (os_n (os_n (os_n (os_l (so_iconst d_Mo_planLine_0 (by decide))) (os_n (os_l (so_istore_n d_Mo_planLine_1 rfl (by decide))) (os_l (so_aload_n d_Mo_planLine_2 rfl)))) (os_n (os_l (so_callV (iv := mi_Mo_here) rfl rfl rfl mw_2072 mw_2074 sl_91 mw_18 mw_2075 ⟨by decide +kernel, by decide +kernel, by decide +kernel⟩ (by decide) d_Mo_planLine_3)) (os_n (os_l (so_bipush d_Mo_planLine_6 (by decide))) (os_l (so_icne d_Mo_planLine_8 (by decide)))))) (os_n (os_n (os_l (so_aload_n d_Mo_planLine_11 rfl)) (os_n (os_l (so_ldc2 mw_2076 d_Mo_planLine_12)) (os_l (so_callV (iv := mi_Mo_over) rfl rfl rfl mw_2077 mw_2079 sl_92 mw_18 mw_2080 ⟨by decide +kernel, by decide +kernel, by decide +kernel⟩ (by decide) d_Mo_planLine_15)))) (os_n (os_n (os_l (so_ifeq d_Mo_planLine_18 (by decide))) (os_l (so_iconst d_Mo_planLine_21 (by decide)))) (os_n (os_l (so_goto d_Mo_planLine_22 (by decide))) (os_l (so_iconst d_Mo_planLine_25 (by decide))))))) (os_n (os_n (os_n (os_l (so_istore_n d_Mo_planLine_26 rfl (by decide))) (os_n (os_l (so_goto d_Mo_planLine_27 (by decide))) (os_l (so_aload_n d_Mo_planLine_30 rfl)))) (os_n (os_n (os_l (so_callV (iv := mi_Mo_here) rfl rfl rfl mw_2072 mw_2074 sl_91 mw_18 mw_2075 ⟨by decide +kernel, by decide +kernel, by decide +kernel⟩ (by decide) d_Mo_planLine_31)) (os_l (so_bipush d_Mo_planLine_34 (by decide)))) (os_n (os_l (so_icne d_Mo_planLine_36 (by decide))) (os_l (so_aload_n d_Mo_planLine_39 rfl))))) (os_n (os_n (os_l (so_ldc2 mw_2082 d_Mo_planLine_40)) (os_n (os_l (so_callV (iv := mi_Mo_over) rfl rfl rfl mw_2077 mw_2079 sl_92 mw_18 mw_2080 ⟨by decide +kernel, by decide +kernel, by decide +kernel⟩ (by decide) d_Mo_planLine_43)) (os_l (so_ifeq d_Mo_planLine_46 (by decide))))) (os_n (os_n (os_l (so_iconst d_Mo_planLine_49 (by decide))) (os_l (so_goto d_Mo_planLine_50 (by decide)))) (os_n (os_l (so_iconst d_Mo_planLine_53 (by decide))) (os_l (so_istore_n d_Mo_planLine_54 rfl (by decide)))))))) (os_n (os_n (os_n (os_n (os_l (so_goto d_Mo_planLine_55 (by decide))) (os_n (os_l (so_aload_n d_Mo_planLine_58 rfl)) (os_l (so_ldc2 mw_2083 d_Mo_planLine_59)))) (os_n (os_l (so_callV (iv := mi_Mo_over) rfl rfl rfl mw_2077 mw_2079 sl_92 mw_18 mw_2080 ⟨by decide +kernel, by decide +kernel, by decide +kernel⟩ (by decide) d_Mo_planLine_62)) (os_n (os_l (so_ifeq d_Mo_planLine_65 (by decide))) (os_l (so_aload_n d_Mo_planLine_68 rfl))))) (os_n (os_n (os_l (so_callV (iv := mi_Mo_here) rfl rfl rfl mw_2072 mw_2074 sl_91 mw_18 mw_2075 ⟨by decide +kernel, by decide +kernel, by decide +kernel⟩ (by decide) d_Mo_planLine_69)) (os_n (os_l (so_bipush d_Mo_planLine_72 (by decide))) (os_l (so_icne d_Mo_planLine_74 (by decide))))) (os_n (os_n (os_l (so_aload_n d_Mo_planLine_77 rfl)) (os_l (so_ldc2 mw_2084 d_Mo_planLine_78))) (os_n (os_l (so_callV (iv := mi_Mo_over) rfl rfl rfl mw_2077 mw_2079 sl_92 mw_18 mw_2080 ⟨by decide +kernel, by decide +kernel, by decide +kernel⟩ (by decide) d_Mo_planLine_81)) (os_l (so_ifeq d_Mo_planLine_84 (by decide))))))) (os_n (os_n (os_n (os_l (so_iconst d_Mo_planLine_87 (by decide))) (os_n (os_l (so_goto d_Mo_planLine_88 (by decide))) (os_l (so_iconst d_Mo_planLine_91 (by decide))))) (os_n (os_n (os_l (so_goto d_Mo_planLine_92 (by decide))) (os_l (so_aload_n d_Mo_planLine_95 rfl))) (os_n (os_l (so_ldc2 mw_2085 d_Mo_planLine_96)) (os_l (so_callV (iv := mi_Mo_over) rfl rfl rfl mw_2077 mw_2079 sl_92 mw_18 mw_2080 ⟨by decide +kernel, by decide +kernel, by decide +kernel⟩ (by decide) d_Mo_planLine_99))))) (os_n (os_n (os_l (so_ifeq d_Mo_planLine_102 (by decide))) (os_n (os_l (so_iconst d_Mo_planLine_105 (by decide))) (os_l (so_goto d_Mo_planLine_106 (by decide))))) (os_n (os_n (os_l (so_iconst d_Mo_planLine_109 (by decide))) (os_l (so_istore_n d_Mo_planLine_110 rfl (by decide)))) (os_n (os_l (so_iload_n d_Mo_planLine_111 rfl)) (os_l (so_iconst d_Mo_planLine_112 (by decide))))))))) (os_n (os_n (os_n (os_n (os_n (os_l (so_iceq d_Mo_planLine_113 (by decide))) (os_n (os_l (so_iload_n d_Mo_planLine_116 rfl)) (os_l (so_iconst d_Mo_planLine_117 (by decide))))) (os_n (os_l (so_icne d_Mo_planLine_118 (by decide))) (os_n (os_l (so_iconst d_Mo_planLine_121 (by decide))) (os_l (so_goto d_Mo_planLine_122 (by decide)))))) (os_n (os_n (os_l (so_iload_n d_Mo_planLine_125 rfl)) (os_n (os_l (so_iconst d_Mo_planLine_126 (by decide))) (os_l (so_icne d_Mo_planLine_127 (by decide))))) (os_n (os_n (os_l (so_iconst d_Mo_planLine_130 (by decide))) (os_l (so_goto d_Mo_planLine_131 (by decide)))) (os_n (os_l (so_iconst d_Mo_planLine_134 (by decide))) (os_l (so_istore_n d_Mo_planLine_135 rfl (by decide))))))) (os_n (os_n (os_n (os_l (so_iconst d_Mo_planLine_136 (by decide))) (os_n (os_l (so_istore_n d_Mo_planLine_137 rfl (by decide))) (os_l (so_iload_n d_Mo_planLine_138 rfl)))) (os_n (os_n (os_l (so_iload_n d_Mo_planLine_139 rfl)) (os_l (so_icge d_Mo_planLine_140 (by decide)))) (os_n (os_l (so_aload_n d_Mo_planLine_143 rfl)) (os_l (so_get (C := R_Mo) (T := F_Mo) (N := 87) (j := 23) in_Mo rfl (by decide) mw_1817 d_Mo_planLine_144))))) (os_n (os_n (os_l (so_iload_n d_Mo_planLine_147 rfl)) (os_n (os_l (so_aload_n d_Mo_planLine_148 rfl)) (os_l (so_iload_n d_Mo_planLine_149 rfl)))) (os_n (os_n (os_l (so_iconst d_Mo_planLine_150 (by decide))) (os_l (so_icne d_Mo_planLine_151 (by decide)))) (os_n (os_l (so_iload_n d_Mo_planLine_154 rfl)) (os_l (so_iconst d_Mo_planLine_155 (by decide)))))))) (os_n (os_n (os_n (os_n (os_l (so_icge d_Mo_planLine_156 (by decide))) (os_n (os_l (so_iconst d_Mo_planLine_159 (by decide))) (os_l (so_goto d_Mo_planLine_160 (by decide))))) (os_n (os_l (so_iconst d_Mo_planLine_163 (by decide))) (os_n (os_l (so_callV (iv := mi_Mo_number) rfl rfl rfl mw_2086 mw_2088 sl_93 mw_18 mw_2089 ⟨by decide +kernel, by decide +kernel, by decide +kernel⟩ (by decide) d_Mo_planLine_164)) (os_l (so_iastore d_Mo_planLine_167))))) (os_n (os_n (os_l (so_aload_n d_Mo_planLine_168 rfl)) (os_n (os_l (so_get (C := R_Mo) (T := F_Mo) (N := 87) (j := 23) in_Mo rfl (by decide) mw_1817 d_Mo_planLine_169)) (os_l (so_iload_n d_Mo_planLine_172 rfl)))) (os_n (os_n (os_l (so_iaload d_Mo_planLine_173)) (os_l (so_bipush d_Mo_planLine_174 (by decide)))) (os_n (os_l (so_icne d_Mo_planLine_176 (by decide))) (os_l (so_iconst d_Mo_planLine_179 (by decide))))))) (os_n (os_n (os_n (os_l (so_ireturn rfl d_Mo_planLine_180)) (os_n (os_l (so_iinc d_Mo_planLine_181 (by decide) (by decide))) (os_l (so_goto d_Mo_planLine_184 (by decide))))) (os_n (os_n (os_l (so_iload_n d_Mo_planLine_187 rfl)) (os_l (so_iconst d_Mo_planLine_188 (by decide)))) (os_n (os_l (so_iceq d_Mo_planLine_189 (by decide))) (os_l (so_aload_n d_Mo_planLine_192 rfl))))) (os_n (os_n (os_l (so_callV (iv := mi_Mo_here) rfl rfl rfl mw_2072 mw_2074 sl_91 mw_18 mw_2075 ⟨by decide +kernel, by decide +kernel, by decide +kernel⟩ (by decide) d_Mo_planLine_193)) (os_n (os_l (so_bipush d_Mo_planLine_196 (by decide))) (os_l (so_icne d_Mo_planLine_198 (by decide))))) (os_n (os_n (os_l (so_iload_n d_Mo_planLine_201 rfl)) (os_l (so_goto d_Mo_planLine_202 (by decide)))) (os_n (os_l (so_iconst d_Mo_planLine_205 (by decide))) (os_l (so_ireturn rfl d_Mo_planLine_206)))))))))
abbrev t_Mo_room_54 : List UInt8 := 172 :: []
abbrev t_Mo_room_53 : List UInt8 := 5 :: t_Mo_room_54
abbrev t_Mo_room_50 : List UInt8 := 167 :: 0 :: 4 :: t_Mo_room_53
abbrev t_Mo_room_49 : List UInt8 := 4 :: t_Mo_room_50
abbrev t_Mo_room_46 : List UInt8 := 160 :: 0 :: 7 :: t_Mo_room_49
abbrev t_Mo_room_44 : List UInt8 := 16 :: 7 :: t_Mo_room_46
abbrev t_Mo_room_43 : List UInt8 := 26 :: t_Mo_room_44
abbrev t_Mo_room_40 : List UInt8 := 167 :: 0 :: 14 :: t_Mo_room_43
abbrev t_Mo_room_39 : List UInt8 := 7 :: t_Mo_room_40
abbrev t_Mo_room_36 : List UInt8 := 160 :: 0 :: 7 :: t_Mo_room_39
abbrev t_Mo_room_34 : List UInt8 := 16 :: 6 :: t_Mo_room_36
abbrev t_Mo_room_33 : List UInt8 := 26 :: t_Mo_room_34
abbrev t_Mo_room_30 : List UInt8 := 167 :: 0 :: 24 :: t_Mo_room_33
abbrev t_Mo_room_29 : List UInt8 := 6 :: t_Mo_room_30
abbrev t_Mo_room_26 : List UInt8 := 160 :: 0 :: 7 :: t_Mo_room_29
abbrev t_Mo_room_25 : List UInt8 := 7 :: t_Mo_room_26
abbrev t_Mo_room_24 : List UInt8 := 26 :: t_Mo_room_25
abbrev t_Mo_room_21 : List UInt8 := 159 :: 0 :: 8 :: t_Mo_room_24
abbrev t_Mo_room_20 : List UInt8 := 6 :: t_Mo_room_21
abbrev t_Mo_room_19 : List UInt8 := 26 :: t_Mo_room_20
abbrev t_Mo_room_16 : List UInt8 := 167 :: 0 :: 38 :: t_Mo_room_19
abbrev t_Mo_room_15 : List UInt8 := 5 :: t_Mo_room_16
abbrev t_Mo_room_12 : List UInt8 := 160 :: 0 :: 7 :: t_Mo_room_15
abbrev t_Mo_room_11 : List UInt8 := 4 :: t_Mo_room_12
abbrev t_Mo_room_10 : List UInt8 := 26 :: t_Mo_room_11
abbrev t_Mo_room_7 : List UInt8 := 167 :: 0 :: 47 :: t_Mo_room_10
abbrev t_Mo_room_4 : List UInt8 := 17 :: 3 :: 232 :: t_Mo_room_7
abbrev t_Mo_room_1 : List UInt8 := 154 :: 0 :: 9 :: t_Mo_room_4
abbrev t_Mo_room_0 : List UInt8 := 26 :: t_Mo_room_1
theorem a_Mo_room_0 : dk_at b_Mo_room 0 t_Mo_room_0 := dk_start (by decide +kernel)
theorem a_Mo_room_1 : dk_at b_Mo_room 1 t_Mo_room_1 := dk_go 1 a_Mo_room_0 rfl
theorem a_Mo_room_4 : dk_at b_Mo_room 4 t_Mo_room_4 := dk_go 3 a_Mo_room_1 rfl
theorem a_Mo_room_7 : dk_at b_Mo_room 7 t_Mo_room_7 := dk_go 3 a_Mo_room_4 rfl
theorem a_Mo_room_10 : dk_at b_Mo_room 10 t_Mo_room_10 := dk_go 3 a_Mo_room_7 rfl
theorem a_Mo_room_11 : dk_at b_Mo_room 11 t_Mo_room_11 := dk_go 1 a_Mo_room_10 rfl
theorem a_Mo_room_12 : dk_at b_Mo_room 12 t_Mo_room_12 := dk_go 1 a_Mo_room_11 rfl
theorem a_Mo_room_15 : dk_at b_Mo_room 15 t_Mo_room_15 := dk_go 3 a_Mo_room_12 rfl
theorem a_Mo_room_16 : dk_at b_Mo_room 16 t_Mo_room_16 := dk_go 1 a_Mo_room_15 rfl
theorem a_Mo_room_19 : dk_at b_Mo_room 19 t_Mo_room_19 := dk_go 3 a_Mo_room_16 rfl
theorem a_Mo_room_20 : dk_at b_Mo_room 20 t_Mo_room_20 := dk_go 1 a_Mo_room_19 rfl
theorem a_Mo_room_21 : dk_at b_Mo_room 21 t_Mo_room_21 := dk_go 1 a_Mo_room_20 rfl
theorem a_Mo_room_24 : dk_at b_Mo_room 24 t_Mo_room_24 := dk_go 3 a_Mo_room_21 rfl
theorem a_Mo_room_25 : dk_at b_Mo_room 25 t_Mo_room_25 := dk_go 1 a_Mo_room_24 rfl
theorem a_Mo_room_26 : dk_at b_Mo_room 26 t_Mo_room_26 := dk_go 1 a_Mo_room_25 rfl
theorem a_Mo_room_29 : dk_at b_Mo_room 29 t_Mo_room_29 := dk_go 3 a_Mo_room_26 rfl
theorem a_Mo_room_30 : dk_at b_Mo_room 30 t_Mo_room_30 := dk_go 1 a_Mo_room_29 rfl
theorem a_Mo_room_33 : dk_at b_Mo_room 33 t_Mo_room_33 := dk_go 3 a_Mo_room_30 rfl
theorem a_Mo_room_34 : dk_at b_Mo_room 34 t_Mo_room_34 := dk_go 1 a_Mo_room_33 rfl
theorem a_Mo_room_36 : dk_at b_Mo_room 36 t_Mo_room_36 := dk_go 2 a_Mo_room_34 rfl
theorem a_Mo_room_39 : dk_at b_Mo_room 39 t_Mo_room_39 := dk_go 3 a_Mo_room_36 rfl
theorem a_Mo_room_40 : dk_at b_Mo_room 40 t_Mo_room_40 := dk_go 1 a_Mo_room_39 rfl
theorem a_Mo_room_43 : dk_at b_Mo_room 43 t_Mo_room_43 := dk_go 3 a_Mo_room_40 rfl
theorem a_Mo_room_44 : dk_at b_Mo_room 44 t_Mo_room_44 := dk_go 1 a_Mo_room_43 rfl
theorem a_Mo_room_46 : dk_at b_Mo_room 46 t_Mo_room_46 := dk_go 2 a_Mo_room_44 rfl
theorem a_Mo_room_49 : dk_at b_Mo_room 49 t_Mo_room_49 := dk_go 3 a_Mo_room_46 rfl
theorem a_Mo_room_50 : dk_at b_Mo_room 50 t_Mo_room_50 := dk_go 1 a_Mo_room_49 rfl
theorem a_Mo_room_53 : dk_at b_Mo_room 53 t_Mo_room_53 := dk_go 3 a_Mo_room_50 rfl
theorem a_Mo_room_54 : dk_at b_Mo_room 54 t_Mo_room_54 := dk_go 1 a_Mo_room_53 rfl
theorem d_Mo_room_0 : decode b_Mo_room 0 = .ok (.iload_n 0, 1) := dk_0 a_Mo_room_0 (dko_26 _)
theorem d_Mo_room_1 : decode b_Mo_room 1 = .ok (.ifCond .ne 9, 3) := dk_S2 a_Mo_room_1 (dko_154 _) (by decide +kernel)
theorem d_Mo_room_4 : decode b_Mo_room 4 = .ok (.sipush 1000, 3) := dk_S2 a_Mo_room_4 (dko_17 _) (by decide +kernel)
theorem d_Mo_room_7 : decode b_Mo_room 7 = .ok (.goto 47, 3) := dk_S2 a_Mo_room_7 (dko_167 _) (by decide +kernel)
theorem d_Mo_room_10 : decode b_Mo_room 10 = .ok (.iload_n 0, 1) := dk_0 a_Mo_room_10 (dko_26 _)
theorem d_Mo_room_11 : decode b_Mo_room 11 = .ok (.iconst 1, 1) := dk_0 a_Mo_room_11 (dko_4 _)
theorem d_Mo_room_12 : decode b_Mo_room 12 = .ok (.if_icmp .ne 7, 3) := dk_S2 a_Mo_room_12 (dko_160 _) (by decide +kernel)
theorem d_Mo_room_15 : decode b_Mo_room 15 = .ok (.iconst 2, 1) := dk_0 a_Mo_room_15 (dko_5 _)
theorem d_Mo_room_16 : decode b_Mo_room 16 = .ok (.goto 38, 3) := dk_S2 a_Mo_room_16 (dko_167 _) (by decide +kernel)
theorem d_Mo_room_19 : decode b_Mo_room 19 = .ok (.iload_n 0, 1) := dk_0 a_Mo_room_19 (dko_26 _)
theorem d_Mo_room_20 : decode b_Mo_room 20 = .ok (.iconst 3, 1) := dk_0 a_Mo_room_20 (dko_6 _)
theorem d_Mo_room_21 : decode b_Mo_room 21 = .ok (.if_icmp .eq 8, 3) := dk_S2 a_Mo_room_21 (dko_159 _) (by decide +kernel)
theorem d_Mo_room_24 : decode b_Mo_room 24 = .ok (.iload_n 0, 1) := dk_0 a_Mo_room_24 (dko_26 _)
theorem d_Mo_room_25 : decode b_Mo_room 25 = .ok (.iconst 4, 1) := dk_0 a_Mo_room_25 (dko_7 _)
theorem d_Mo_room_26 : decode b_Mo_room 26 = .ok (.if_icmp .ne 7, 3) := dk_S2 a_Mo_room_26 (dko_160 _) (by decide +kernel)
theorem d_Mo_room_29 : decode b_Mo_room 29 = .ok (.iconst 3, 1) := dk_0 a_Mo_room_29 (dko_6 _)
theorem d_Mo_room_30 : decode b_Mo_room 30 = .ok (.goto 24, 3) := dk_S2 a_Mo_room_30 (dko_167 _) (by decide +kernel)
theorem d_Mo_room_33 : decode b_Mo_room 33 = .ok (.iload_n 0, 1) := dk_0 a_Mo_room_33 (dko_26 _)
theorem d_Mo_room_34 : decode b_Mo_room 34 = .ok (.bipush 6, 2) := dk_S1 a_Mo_room_34 (dko_16 _) (by decide +kernel)
theorem d_Mo_room_36 : decode b_Mo_room 36 = .ok (.if_icmp .ne 7, 3) := dk_S2 a_Mo_room_36 (dko_160 _) (by decide +kernel)
theorem d_Mo_room_39 : decode b_Mo_room 39 = .ok (.iconst 4, 1) := dk_0 a_Mo_room_39 (dko_7 _)
theorem d_Mo_room_40 : decode b_Mo_room 40 = .ok (.goto 14, 3) := dk_S2 a_Mo_room_40 (dko_167 _) (by decide +kernel)
theorem d_Mo_room_43 : decode b_Mo_room 43 = .ok (.iload_n 0, 1) := dk_0 a_Mo_room_43 (dko_26 _)
theorem d_Mo_room_44 : decode b_Mo_room 44 = .ok (.bipush 7, 2) := dk_S1 a_Mo_room_44 (dko_16 _) (by decide +kernel)
theorem d_Mo_room_46 : decode b_Mo_room 46 = .ok (.if_icmp .ne 7, 3) := dk_S2 a_Mo_room_46 (dko_160 _) (by decide +kernel)
theorem d_Mo_room_49 : decode b_Mo_room 49 = .ok (.iconst 1, 1) := dk_0 a_Mo_room_49 (dko_4 _)
theorem d_Mo_room_50 : decode b_Mo_room 50 = .ok (.goto 4, 3) := dk_S2 a_Mo_room_50 (dko_167 _) (by decide +kernel)
theorem d_Mo_room_53 : decode b_Mo_room 53 = .ok (.iconst 2, 1) := dk_0 a_Mo_room_53 (dko_5 _)
theorem d_Mo_room_54 : decode b_Mo_room 54 = .ok (.ireturn, 1) := dk_0 a_Mo_room_54 (dko_172 _)
set_option maxHeartbeats 4000000 in
set_option maxRecDepth 100000 in
theorem ok_Mo_room (pc : Nat) : OpS mt mi_Mo_room pc (cs_Mo_room pc) := (os_n (os_n (os_n (os_n (os_l (so_iload_n d_Mo_room_0 rfl)) (os_n (os_l (so_ifne d_Mo_room_1 (by decide))) (os_l (so_sipush d_Mo_room_4 (by decide))))) (os_n (os_n (os_l (so_goto d_Mo_room_7 (by decide))) (os_l (so_iload_n d_Mo_room_10 rfl))) (os_n (os_l (so_iconst d_Mo_room_11 (by decide))) (os_l (so_icne d_Mo_room_12 (by decide)))))) (os_n (os_n (os_l (so_iconst d_Mo_room_15 (by decide))) (os_n (os_l (so_goto d_Mo_room_16 (by decide))) (os_l (so_iload_n d_Mo_room_19 rfl)))) (os_n (os_n (os_l (so_iconst d_Mo_room_20 (by decide))) (os_l (so_iceq d_Mo_room_21 (by decide)))) (os_n (os_l (so_iload_n d_Mo_room_24 rfl)) (os_l (so_iconst d_Mo_room_25 (by decide))))))) (os_n (os_n (os_n (os_l (so_icne d_Mo_room_26 (by decide))) (os_n (os_l (so_iconst d_Mo_room_29 (by decide))) (os_l (so_goto d_Mo_room_30 (by decide))))) (os_n (os_n (os_l (so_iload_n d_Mo_room_33 rfl)) (os_l (so_bipush d_Mo_room_34 (by decide)))) (os_n (os_l (so_icne d_Mo_room_36 (by decide))) (os_l (so_iconst d_Mo_room_39 (by decide)))))) (os_n (os_n (os_n (os_l (so_goto d_Mo_room_40 (by decide))) (os_l (so_iload_n d_Mo_room_43 rfl))) (os_n (os_l (so_bipush d_Mo_room_44 (by decide))) (os_l (so_icne d_Mo_room_46 (by decide))))) (os_n (os_n (os_l (so_iconst d_Mo_room_49 (by decide))) (os_l (so_goto d_Mo_room_50 (by decide)))) (os_n (os_l (so_iconst d_Mo_room_53 (by decide))) (os_l (so_ireturn rfl d_Mo_room_54)))))))
abbrev t_Mo_isNew_280 : List UInt8 := 172 :: []
abbrev t_Mo_isNew_279 : List UInt8 := 4 :: t_Mo_isNew_280
abbrev t_Mo_isNew_276 : List UInt8 := 181 :: 1 :: 9 :: t_Mo_isNew_279
abbrev t_Mo_isNew_275 : List UInt8 := 96 :: t_Mo_isNew_276
abbrev t_Mo_isNew_274 : List UInt8 := 4 :: t_Mo_isNew_275
abbrev t_Mo_isNew_271 : List UInt8 := 180 :: 1 :: 9 :: t_Mo_isNew_274
abbrev t_Mo_isNew_270 : List UInt8 := 89 :: t_Mo_isNew_271
abbrev t_Mo_isNew_269 : List UInt8 := 42 :: t_Mo_isNew_270
abbrev t_Mo_isNew_268 : List UInt8 := 79 :: t_Mo_isNew_269
abbrev t_Mo_isNew_267 : List UInt8 := 96 :: t_Mo_isNew_268
abbrev t_Mo_isNew_266 : List UInt8 := 4 :: t_Mo_isNew_267
abbrev t_Mo_isNew_265 : List UInt8 := 46 :: t_Mo_isNew_266
abbrev t_Mo_isNew_264 : List UInt8 := 92 :: t_Mo_isNew_265
abbrev t_Mo_isNew_263 : List UInt8 := 29 :: t_Mo_isNew_264
abbrev t_Mo_isNew_260 : List UInt8 := 180 :: 0 :: 80 :: t_Mo_isNew_263
abbrev t_Mo_isNew_259 : List UInt8 := 42 :: t_Mo_isNew_260
abbrev t_Mo_isNew_256 : List UInt8 := 155 :: 0 :: 13 :: t_Mo_isNew_259
abbrev t_Mo_isNew_255 : List UInt8 := 29 :: t_Mo_isNew_256
abbrev t_Mo_isNew_254 : List UInt8 := 79 :: t_Mo_isNew_255
abbrev t_Mo_isNew_253 : List UInt8 := 96 :: t_Mo_isNew_254
abbrev t_Mo_isNew_252 : List UInt8 := 4 :: t_Mo_isNew_253
abbrev t_Mo_isNew_251 : List UInt8 := 46 :: t_Mo_isNew_252
abbrev t_Mo_isNew_250 : List UInt8 := 92 :: t_Mo_isNew_251
abbrev t_Mo_isNew_249 : List UInt8 := 28 :: t_Mo_isNew_250
abbrev t_Mo_isNew_246 : List UInt8 := 180 :: 0 :: 80 :: t_Mo_isNew_249
abbrev t_Mo_isNew_245 : List UInt8 := 42 :: t_Mo_isNew_246
abbrev t_Mo_isNew_242 : List UInt8 := 155 :: 0 :: 13 :: t_Mo_isNew_245
abbrev t_Mo_isNew_241 : List UInt8 := 28 :: t_Mo_isNew_242
abbrev t_Mo_isNew_240 : List UInt8 := 172 :: t_Mo_isNew_241
abbrev t_Mo_isNew_239 : List UInt8 := 3 :: t_Mo_isNew_240
abbrev t_Mo_isNew_236 : List UInt8 := 161 :: 0 :: 5 :: t_Mo_isNew_239
abbrev t_Mo_isNew_233 : List UInt8 := 184 :: 1 :: 12 :: t_Mo_isNew_236
abbrev t_Mo_isNew_232 : List UInt8 := 46 :: t_Mo_isNew_233
abbrev t_Mo_isNew_231 : List UInt8 := 29 :: t_Mo_isNew_232
abbrev t_Mo_isNew_228 : List UInt8 := 180 :: 0 :: 77 :: t_Mo_isNew_231
abbrev t_Mo_isNew_227 : List UInt8 := 42 :: t_Mo_isNew_228
abbrev t_Mo_isNew_226 : List UInt8 := 96 :: t_Mo_isNew_227
abbrev t_Mo_isNew_224 : List UInt8 := 21 :: 4 :: t_Mo_isNew_226
abbrev t_Mo_isNew_223 : List UInt8 := 46 :: t_Mo_isNew_224
abbrev t_Mo_isNew_222 : List UInt8 := 29 :: t_Mo_isNew_223
abbrev t_Mo_isNew_219 : List UInt8 := 180 :: 0 :: 80 :: t_Mo_isNew_222
abbrev t_Mo_isNew_218 : List UInt8 := 42 :: t_Mo_isNew_219
abbrev t_Mo_isNew_215 : List UInt8 := 155 :: 0 :: 26 :: t_Mo_isNew_218
abbrev t_Mo_isNew_214 : List UInt8 := 29 :: t_Mo_isNew_215
abbrev t_Mo_isNew_211 : List UInt8 := 162 :: 0 :: 28 :: t_Mo_isNew_214
abbrev t_Mo_isNew_208 : List UInt8 := 184 :: 1 :: 12 :: t_Mo_isNew_211
abbrev t_Mo_isNew_207 : List UInt8 := 46 :: t_Mo_isNew_208
abbrev t_Mo_isNew_206 : List UInt8 := 28 :: t_Mo_isNew_207
abbrev t_Mo_isNew_203 : List UInt8 := 180 :: 0 :: 77 :: t_Mo_isNew_206
abbrev t_Mo_isNew_202 : List UInt8 := 42 :: t_Mo_isNew_203
abbrev t_Mo_isNew_201 : List UInt8 := 96 :: t_Mo_isNew_202
abbrev t_Mo_isNew_199 : List UInt8 := 21 :: 4 :: t_Mo_isNew_201
abbrev t_Mo_isNew_198 : List UInt8 := 46 :: t_Mo_isNew_199
abbrev t_Mo_isNew_197 : List UInt8 := 28 :: t_Mo_isNew_198
abbrev t_Mo_isNew_194 : List UInt8 := 180 :: 0 :: 80 :: t_Mo_isNew_197
abbrev t_Mo_isNew_193 : List UInt8 := 42 :: t_Mo_isNew_194
abbrev t_Mo_isNew_190 : List UInt8 := 155 :: 0 :: 24 :: t_Mo_isNew_193
abbrev t_Mo_isNew_189 : List UInt8 := 28 :: t_Mo_isNew_190
abbrev t_Mo_isNew_187 : List UInt8 := 54 :: 4 :: t_Mo_isNew_189
abbrev t_Mo_isNew_186 : List UInt8 := 3 :: t_Mo_isNew_187
abbrev t_Mo_isNew_183 : List UInt8 := 167 :: 0 :: 4 :: t_Mo_isNew_186
abbrev t_Mo_isNew_182 : List UInt8 := 4 :: t_Mo_isNew_183
abbrev t_Mo_isNew_179 : List UInt8 := 160 :: 0 :: 7 :: t_Mo_isNew_182
abbrev t_Mo_isNew_178 : List UInt8 := 29 :: t_Mo_isNew_179
abbrev t_Mo_isNew_177 : List UInt8 := 28 :: t_Mo_isNew_178
abbrev t_Mo_isNew_176 : List UInt8 := 172 :: t_Mo_isNew_177
abbrev t_Mo_isNew_175 : List UInt8 := 3 :: t_Mo_isNew_176
abbrev t_Mo_isNew_172 : List UInt8 := 161 :: 0 :: 5 :: t_Mo_isNew_175
abbrev t_Mo_isNew_169 : List UInt8 := 180 :: 1 :: 5 :: t_Mo_isNew_172
abbrev t_Mo_isNew_168 : List UInt8 := 42 :: t_Mo_isNew_169
abbrev t_Mo_isNew_167 : List UInt8 := 29 :: t_Mo_isNew_168
abbrev t_Mo_isNew_164 : List UInt8 := 162 :: 0 :: 11 :: t_Mo_isNew_167
abbrev t_Mo_isNew_161 : List UInt8 := 180 :: 1 :: 5 :: t_Mo_isNew_164
abbrev t_Mo_isNew_160 : List UInt8 := 42 :: t_Mo_isNew_161
abbrev t_Mo_isNew_159 : List UInt8 := 28 :: t_Mo_isNew_160
abbrev t_Mo_isNew_156 : List UInt8 := 163 :: 0 :: 19 :: t_Mo_isNew_159
abbrev t_Mo_isNew_153 : List UInt8 := 17 :: 0 :: 200 :: t_Mo_isNew_156
abbrev t_Mo_isNew_152 : List UInt8 := 46 :: t_Mo_isNew_153
abbrev t_Mo_isNew_151 : List UInt8 := 5 :: t_Mo_isNew_152
abbrev t_Mo_isNew_148 : List UInt8 := 180 :: 0 :: 74 :: t_Mo_isNew_151
abbrev t_Mo_isNew_147 : List UInt8 := 42 :: t_Mo_isNew_148
abbrev t_Mo_isNew_144 : List UInt8 := 161 :: 0 :: 31 :: t_Mo_isNew_147
abbrev t_Mo_isNew_143 : List UInt8 := 4 :: t_Mo_isNew_144
abbrev t_Mo_isNew_142 : List UInt8 := 46 :: t_Mo_isNew_143
abbrev t_Mo_isNew_141 : List UInt8 := 5 :: t_Mo_isNew_142
abbrev t_Mo_isNew_138 : List UInt8 := 180 :: 0 :: 74 :: t_Mo_isNew_141
abbrev t_Mo_isNew_137 : List UInt8 := 42 :: t_Mo_isNew_138
abbrev t_Mo_isNew_134 : List UInt8 := 159 :: 0 :: 41 :: t_Mo_isNew_137
abbrev t_Mo_isNew_132 : List UInt8 := 16 :: 24 :: t_Mo_isNew_134
abbrev t_Mo_isNew_129 : List UInt8 := 180 :: 1 :: 9 :: t_Mo_isNew_132
abbrev t_Mo_isNew_128 : List UInt8 := 42 :: t_Mo_isNew_129
abbrev t_Mo_isNew_127 : List UInt8 := 62 :: t_Mo_isNew_128
abbrev t_Mo_isNew_126 : List UInt8 := 46 :: t_Mo_isNew_127
abbrev t_Mo_isNew_125 : List UInt8 := 4 :: t_Mo_isNew_126
abbrev t_Mo_isNew_122 : List UInt8 := 180 :: 0 :: 74 :: t_Mo_isNew_125
abbrev t_Mo_isNew_121 : List UInt8 := 42 :: t_Mo_isNew_122
abbrev t_Mo_isNew_120 : List UInt8 := 61 :: t_Mo_isNew_121
abbrev t_Mo_isNew_119 : List UInt8 := 46 :: t_Mo_isNew_120
abbrev t_Mo_isNew_118 : List UInt8 := 3 :: t_Mo_isNew_119
abbrev t_Mo_isNew_115 : List UInt8 := 180 :: 0 :: 74 :: t_Mo_isNew_118
abbrev t_Mo_isNew_114 : List UInt8 := 42 :: t_Mo_isNew_115
abbrev t_Mo_isNew_113 : List UInt8 := 172 :: t_Mo_isNew_114
abbrev t_Mo_isNew_112 : List UInt8 := 28 :: t_Mo_isNew_113
abbrev t_Mo_isNew_109 : List UInt8 := 181 :: 1 :: 5 :: t_Mo_isNew_112
abbrev t_Mo_isNew_108 : List UInt8 := 96 :: t_Mo_isNew_109
abbrev t_Mo_isNew_107 : List UInt8 := 4 :: t_Mo_isNew_108
abbrev t_Mo_isNew_104 : List UInt8 := 180 :: 1 :: 5 :: t_Mo_isNew_107
abbrev t_Mo_isNew_103 : List UInt8 := 89 :: t_Mo_isNew_104
abbrev t_Mo_isNew_102 : List UInt8 := 42 :: t_Mo_isNew_103
abbrev t_Mo_isNew_101 : List UInt8 := 79 :: t_Mo_isNew_102
abbrev t_Mo_isNew_100 : List UInt8 := 3 :: t_Mo_isNew_101
abbrev t_Mo_isNew_97 : List UInt8 := 180 :: 1 :: 5 :: t_Mo_isNew_100
abbrev t_Mo_isNew_96 : List UInt8 := 42 :: t_Mo_isNew_97
abbrev t_Mo_isNew_93 : List UInt8 := 180 :: 0 :: 80 :: t_Mo_isNew_96
abbrev t_Mo_isNew_92 : List UInt8 := 42 :: t_Mo_isNew_93
abbrev t_Mo_isNew_91 : List UInt8 := 79 :: t_Mo_isNew_92
abbrev t_Mo_isNew_90 : List UInt8 := 27 :: t_Mo_isNew_91
abbrev t_Mo_isNew_87 : List UInt8 := 167 :: 0 :: 4 :: t_Mo_isNew_90
abbrev t_Mo_isNew_86 : List UInt8 := 96 :: t_Mo_isNew_87
abbrev t_Mo_isNew_85 : List UInt8 := 46 :: t_Mo_isNew_86
abbrev t_Mo_isNew_84 : List UInt8 := 3 :: t_Mo_isNew_85
abbrev t_Mo_isNew_81 : List UInt8 := 180 :: 0 :: 74 :: t_Mo_isNew_84
abbrev t_Mo_isNew_80 : List UInt8 := 42 :: t_Mo_isNew_81
abbrev t_Mo_isNew_79 : List UInt8 := 5 :: t_Mo_isNew_80
abbrev t_Mo_isNew_76 : List UInt8 := 160 :: 0 :: 14 :: t_Mo_isNew_79
abbrev t_Mo_isNew_75 : List UInt8 := 5 :: t_Mo_isNew_76
abbrev t_Mo_isNew_74 : List UInt8 := 27 :: t_Mo_isNew_75
abbrev t_Mo_isNew_71 : List UInt8 := 180 :: 1 :: 5 :: t_Mo_isNew_74
abbrev t_Mo_isNew_70 : List UInt8 := 42 :: t_Mo_isNew_71
abbrev t_Mo_isNew_67 : List UInt8 := 180 :: 0 :: 77 :: t_Mo_isNew_70
abbrev t_Mo_isNew_66 : List UInt8 := 42 :: t_Mo_isNew_67
abbrev t_Mo_isNew_63 : List UInt8 := 153 :: 0 :: 49 :: t_Mo_isNew_66
abbrev t_Mo_isNew_62 : List UInt8 := 28 :: t_Mo_isNew_63
abbrev t_Mo_isNew_61 : List UInt8 := 61 :: t_Mo_isNew_62
abbrev t_Mo_isNew_60 : List UInt8 := 3 :: t_Mo_isNew_61
abbrev t_Mo_isNew_57 : List UInt8 := 167 :: 0 :: 4 :: t_Mo_isNew_60
abbrev t_Mo_isNew_56 : List UInt8 := 4 :: t_Mo_isNew_57
abbrev t_Mo_isNew_53 : List UInt8 := 163 :: 0 :: 7 :: t_Mo_isNew_56
abbrev t_Mo_isNew_51 : List UInt8 := 16 :: 7 :: t_Mo_isNew_53
abbrev t_Mo_isNew_50 : List UInt8 := 46 :: t_Mo_isNew_51
abbrev t_Mo_isNew_49 : List UInt8 := 3 :: t_Mo_isNew_50
abbrev t_Mo_isNew_46 : List UInt8 := 180 :: 0 :: 74 :: t_Mo_isNew_49
abbrev t_Mo_isNew_45 : List UInt8 := 42 :: t_Mo_isNew_46
abbrev t_Mo_isNew_42 : List UInt8 := 160 :: 0 :: 14 :: t_Mo_isNew_45
abbrev t_Mo_isNew_41 : List UInt8 := 5 :: t_Mo_isNew_42
abbrev t_Mo_isNew_40 : List UInt8 := 27 :: t_Mo_isNew_41
abbrev t_Mo_isNew_37 : List UInt8 := 163 :: 0 :: 23 :: t_Mo_isNew_40
abbrev t_Mo_isNew_34 : List UInt8 := 19 :: 1 :: 8 :: t_Mo_isNew_37
abbrev t_Mo_isNew_33 : List UInt8 := 46 :: t_Mo_isNew_34
abbrev t_Mo_isNew_32 : List UInt8 := 3 :: t_Mo_isNew_33
abbrev t_Mo_isNew_29 : List UInt8 := 180 :: 0 :: 74 :: t_Mo_isNew_32
abbrev t_Mo_isNew_28 : List UInt8 := 42 :: t_Mo_isNew_29
abbrev t_Mo_isNew_25 : List UInt8 := 161 :: 0 :: 35 :: t_Mo_isNew_28
abbrev t_Mo_isNew_24 : List UInt8 := 4 :: t_Mo_isNew_25
abbrev t_Mo_isNew_23 : List UInt8 := 46 :: t_Mo_isNew_24
abbrev t_Mo_isNew_22 : List UInt8 := 3 :: t_Mo_isNew_23
abbrev t_Mo_isNew_19 : List UInt8 := 180 :: 0 :: 74 :: t_Mo_isNew_22
abbrev t_Mo_isNew_18 : List UInt8 := 42 :: t_Mo_isNew_19
abbrev t_Mo_isNew_15 : List UInt8 := 154 :: 0 :: 25 :: t_Mo_isNew_18
abbrev t_Mo_isNew_14 : List UInt8 := 27 :: t_Mo_isNew_15
abbrev t_Mo_isNew_11 : List UInt8 := 162 :: 0 :: 49 :: t_Mo_isNew_14
abbrev t_Mo_isNew_9 : List UInt8 := 16 :: 20 :: t_Mo_isNew_11
abbrev t_Mo_isNew_6 : List UInt8 := 180 :: 1 :: 5 :: t_Mo_isNew_9
abbrev t_Mo_isNew_5 : List UInt8 := 42 :: t_Mo_isNew_6
abbrev t_Mo_isNew_2 : List UInt8 := 159 :: 0 :: 112 :: t_Mo_isNew_5
abbrev t_Mo_isNew_1 : List UInt8 := 6 :: t_Mo_isNew_2
abbrev t_Mo_isNew_0 : List UInt8 := 27 :: t_Mo_isNew_1
theorem a_Mo_isNew_0 : dk_at b_Mo_isNew 0 t_Mo_isNew_0 := dk_start (by decide +kernel)
theorem a_Mo_isNew_1 : dk_at b_Mo_isNew 1 t_Mo_isNew_1 := dk_go 1 a_Mo_isNew_0 rfl
theorem a_Mo_isNew_2 : dk_at b_Mo_isNew 2 t_Mo_isNew_2 := dk_go 1 a_Mo_isNew_1 rfl
theorem a_Mo_isNew_5 : dk_at b_Mo_isNew 5 t_Mo_isNew_5 := dk_go 3 a_Mo_isNew_2 rfl
theorem a_Mo_isNew_6 : dk_at b_Mo_isNew 6 t_Mo_isNew_6 := dk_go 1 a_Mo_isNew_5 rfl
theorem a_Mo_isNew_9 : dk_at b_Mo_isNew 9 t_Mo_isNew_9 := dk_go 3 a_Mo_isNew_6 rfl
theorem a_Mo_isNew_11 : dk_at b_Mo_isNew 11 t_Mo_isNew_11 := dk_go 2 a_Mo_isNew_9 rfl
theorem a_Mo_isNew_14 : dk_at b_Mo_isNew 14 t_Mo_isNew_14 := dk_go 3 a_Mo_isNew_11 rfl
theorem a_Mo_isNew_15 : dk_at b_Mo_isNew 15 t_Mo_isNew_15 := dk_go 1 a_Mo_isNew_14 rfl
theorem a_Mo_isNew_18 : dk_at b_Mo_isNew 18 t_Mo_isNew_18 := dk_go 3 a_Mo_isNew_15 rfl
theorem a_Mo_isNew_19 : dk_at b_Mo_isNew 19 t_Mo_isNew_19 := dk_go 1 a_Mo_isNew_18 rfl
theorem a_Mo_isNew_22 : dk_at b_Mo_isNew 22 t_Mo_isNew_22 := dk_go 3 a_Mo_isNew_19 rfl
theorem a_Mo_isNew_23 : dk_at b_Mo_isNew 23 t_Mo_isNew_23 := dk_go 1 a_Mo_isNew_22 rfl
theorem a_Mo_isNew_24 : dk_at b_Mo_isNew 24 t_Mo_isNew_24 := dk_go 1 a_Mo_isNew_23 rfl
theorem a_Mo_isNew_25 : dk_at b_Mo_isNew 25 t_Mo_isNew_25 := dk_go 1 a_Mo_isNew_24 rfl
theorem a_Mo_isNew_28 : dk_at b_Mo_isNew 28 t_Mo_isNew_28 := dk_go 3 a_Mo_isNew_25 rfl
theorem a_Mo_isNew_29 : dk_at b_Mo_isNew 29 t_Mo_isNew_29 := dk_go 1 a_Mo_isNew_28 rfl
theorem a_Mo_isNew_32 : dk_at b_Mo_isNew 32 t_Mo_isNew_32 := dk_go 3 a_Mo_isNew_29 rfl
theorem a_Mo_isNew_33 : dk_at b_Mo_isNew 33 t_Mo_isNew_33 := dk_go 1 a_Mo_isNew_32 rfl
theorem a_Mo_isNew_34 : dk_at b_Mo_isNew 34 t_Mo_isNew_34 := dk_go 1 a_Mo_isNew_33 rfl
theorem a_Mo_isNew_37 : dk_at b_Mo_isNew 37 t_Mo_isNew_37 := dk_go 3 a_Mo_isNew_34 rfl
theorem a_Mo_isNew_40 : dk_at b_Mo_isNew 40 t_Mo_isNew_40 := dk_go 3 a_Mo_isNew_37 rfl
theorem a_Mo_isNew_41 : dk_at b_Mo_isNew 41 t_Mo_isNew_41 := dk_go 1 a_Mo_isNew_40 rfl
theorem a_Mo_isNew_42 : dk_at b_Mo_isNew 42 t_Mo_isNew_42 := dk_go 1 a_Mo_isNew_41 rfl
theorem a_Mo_isNew_45 : dk_at b_Mo_isNew 45 t_Mo_isNew_45 := dk_go 3 a_Mo_isNew_42 rfl
theorem a_Mo_isNew_46 : dk_at b_Mo_isNew 46 t_Mo_isNew_46 := dk_go 1 a_Mo_isNew_45 rfl
theorem a_Mo_isNew_49 : dk_at b_Mo_isNew 49 t_Mo_isNew_49 := dk_go 3 a_Mo_isNew_46 rfl
theorem a_Mo_isNew_50 : dk_at b_Mo_isNew 50 t_Mo_isNew_50 := dk_go 1 a_Mo_isNew_49 rfl
theorem a_Mo_isNew_51 : dk_at b_Mo_isNew 51 t_Mo_isNew_51 := dk_go 1 a_Mo_isNew_50 rfl
theorem a_Mo_isNew_53 : dk_at b_Mo_isNew 53 t_Mo_isNew_53 := dk_go 2 a_Mo_isNew_51 rfl
theorem a_Mo_isNew_56 : dk_at b_Mo_isNew 56 t_Mo_isNew_56 := dk_go 3 a_Mo_isNew_53 rfl
theorem a_Mo_isNew_57 : dk_at b_Mo_isNew 57 t_Mo_isNew_57 := dk_go 1 a_Mo_isNew_56 rfl
theorem a_Mo_isNew_60 : dk_at b_Mo_isNew 60 t_Mo_isNew_60 := dk_go 3 a_Mo_isNew_57 rfl
theorem a_Mo_isNew_61 : dk_at b_Mo_isNew 61 t_Mo_isNew_61 := dk_go 1 a_Mo_isNew_60 rfl
theorem a_Mo_isNew_62 : dk_at b_Mo_isNew 62 t_Mo_isNew_62 := dk_go 1 a_Mo_isNew_61 rfl
theorem a_Mo_isNew_63 : dk_at b_Mo_isNew 63 t_Mo_isNew_63 := dk_go 1 a_Mo_isNew_62 rfl
theorem a_Mo_isNew_66 : dk_at b_Mo_isNew 66 t_Mo_isNew_66 := dk_go 3 a_Mo_isNew_63 rfl
theorem a_Mo_isNew_67 : dk_at b_Mo_isNew 67 t_Mo_isNew_67 := dk_go 1 a_Mo_isNew_66 rfl
theorem a_Mo_isNew_70 : dk_at b_Mo_isNew 70 t_Mo_isNew_70 := dk_go 3 a_Mo_isNew_67 rfl
theorem a_Mo_isNew_71 : dk_at b_Mo_isNew 71 t_Mo_isNew_71 := dk_go 1 a_Mo_isNew_70 rfl
theorem a_Mo_isNew_74 : dk_at b_Mo_isNew 74 t_Mo_isNew_74 := dk_go 3 a_Mo_isNew_71 rfl
theorem a_Mo_isNew_75 : dk_at b_Mo_isNew 75 t_Mo_isNew_75 := dk_go 1 a_Mo_isNew_74 rfl
theorem a_Mo_isNew_76 : dk_at b_Mo_isNew 76 t_Mo_isNew_76 := dk_go 1 a_Mo_isNew_75 rfl
theorem a_Mo_isNew_79 : dk_at b_Mo_isNew 79 t_Mo_isNew_79 := dk_go 3 a_Mo_isNew_76 rfl
theorem a_Mo_isNew_80 : dk_at b_Mo_isNew 80 t_Mo_isNew_80 := dk_go 1 a_Mo_isNew_79 rfl
theorem a_Mo_isNew_81 : dk_at b_Mo_isNew 81 t_Mo_isNew_81 := dk_go 1 a_Mo_isNew_80 rfl
theorem a_Mo_isNew_84 : dk_at b_Mo_isNew 84 t_Mo_isNew_84 := dk_go 3 a_Mo_isNew_81 rfl
theorem a_Mo_isNew_85 : dk_at b_Mo_isNew 85 t_Mo_isNew_85 := dk_go 1 a_Mo_isNew_84 rfl
theorem a_Mo_isNew_86 : dk_at b_Mo_isNew 86 t_Mo_isNew_86 := dk_go 1 a_Mo_isNew_85 rfl
theorem a_Mo_isNew_87 : dk_at b_Mo_isNew 87 t_Mo_isNew_87 := dk_go 1 a_Mo_isNew_86 rfl
theorem a_Mo_isNew_90 : dk_at b_Mo_isNew 90 t_Mo_isNew_90 := dk_go 3 a_Mo_isNew_87 rfl
theorem a_Mo_isNew_91 : dk_at b_Mo_isNew 91 t_Mo_isNew_91 := dk_go 1 a_Mo_isNew_90 rfl
theorem a_Mo_isNew_92 : dk_at b_Mo_isNew 92 t_Mo_isNew_92 := dk_go 1 a_Mo_isNew_91 rfl
theorem a_Mo_isNew_93 : dk_at b_Mo_isNew 93 t_Mo_isNew_93 := dk_go 1 a_Mo_isNew_92 rfl
theorem a_Mo_isNew_96 : dk_at b_Mo_isNew 96 t_Mo_isNew_96 := dk_go 3 a_Mo_isNew_93 rfl
theorem a_Mo_isNew_97 : dk_at b_Mo_isNew 97 t_Mo_isNew_97 := dk_go 1 a_Mo_isNew_96 rfl
theorem a_Mo_isNew_100 : dk_at b_Mo_isNew 100 t_Mo_isNew_100 := dk_go 3 a_Mo_isNew_97 rfl
theorem a_Mo_isNew_101 : dk_at b_Mo_isNew 101 t_Mo_isNew_101 := dk_go 1 a_Mo_isNew_100 rfl
theorem a_Mo_isNew_102 : dk_at b_Mo_isNew 102 t_Mo_isNew_102 := dk_go 1 a_Mo_isNew_101 rfl
theorem a_Mo_isNew_103 : dk_at b_Mo_isNew 103 t_Mo_isNew_103 := dk_go 1 a_Mo_isNew_102 rfl
theorem a_Mo_isNew_104 : dk_at b_Mo_isNew 104 t_Mo_isNew_104 := dk_go 1 a_Mo_isNew_103 rfl
theorem a_Mo_isNew_107 : dk_at b_Mo_isNew 107 t_Mo_isNew_107 := dk_go 3 a_Mo_isNew_104 rfl
theorem a_Mo_isNew_108 : dk_at b_Mo_isNew 108 t_Mo_isNew_108 := dk_go 1 a_Mo_isNew_107 rfl
theorem a_Mo_isNew_109 : dk_at b_Mo_isNew 109 t_Mo_isNew_109 := dk_go 1 a_Mo_isNew_108 rfl
theorem a_Mo_isNew_112 : dk_at b_Mo_isNew 112 t_Mo_isNew_112 := dk_go 3 a_Mo_isNew_109 rfl
theorem a_Mo_isNew_113 : dk_at b_Mo_isNew 113 t_Mo_isNew_113 := dk_go 1 a_Mo_isNew_112 rfl
theorem a_Mo_isNew_114 : dk_at b_Mo_isNew 114 t_Mo_isNew_114 := dk_go 1 a_Mo_isNew_113 rfl
theorem a_Mo_isNew_115 : dk_at b_Mo_isNew 115 t_Mo_isNew_115 := dk_go 1 a_Mo_isNew_114 rfl
theorem a_Mo_isNew_118 : dk_at b_Mo_isNew 118 t_Mo_isNew_118 := dk_go 3 a_Mo_isNew_115 rfl
theorem a_Mo_isNew_119 : dk_at b_Mo_isNew 119 t_Mo_isNew_119 := dk_go 1 a_Mo_isNew_118 rfl
theorem a_Mo_isNew_120 : dk_at b_Mo_isNew 120 t_Mo_isNew_120 := dk_go 1 a_Mo_isNew_119 rfl
theorem a_Mo_isNew_121 : dk_at b_Mo_isNew 121 t_Mo_isNew_121 := dk_go 1 a_Mo_isNew_120 rfl
theorem a_Mo_isNew_122 : dk_at b_Mo_isNew 122 t_Mo_isNew_122 := dk_go 1 a_Mo_isNew_121 rfl
theorem a_Mo_isNew_125 : dk_at b_Mo_isNew 125 t_Mo_isNew_125 := dk_go 3 a_Mo_isNew_122 rfl
theorem a_Mo_isNew_126 : dk_at b_Mo_isNew 126 t_Mo_isNew_126 := dk_go 1 a_Mo_isNew_125 rfl
theorem a_Mo_isNew_127 : dk_at b_Mo_isNew 127 t_Mo_isNew_127 := dk_go 1 a_Mo_isNew_126 rfl
theorem a_Mo_isNew_128 : dk_at b_Mo_isNew 128 t_Mo_isNew_128 := dk_go 1 a_Mo_isNew_127 rfl
theorem a_Mo_isNew_129 : dk_at b_Mo_isNew 129 t_Mo_isNew_129 := dk_go 1 a_Mo_isNew_128 rfl
theorem a_Mo_isNew_132 : dk_at b_Mo_isNew 132 t_Mo_isNew_132 := dk_go 3 a_Mo_isNew_129 rfl
theorem a_Mo_isNew_134 : dk_at b_Mo_isNew 134 t_Mo_isNew_134 := dk_go 2 a_Mo_isNew_132 rfl
theorem a_Mo_isNew_137 : dk_at b_Mo_isNew 137 t_Mo_isNew_137 := dk_go 3 a_Mo_isNew_134 rfl
theorem a_Mo_isNew_138 : dk_at b_Mo_isNew 138 t_Mo_isNew_138 := dk_go 1 a_Mo_isNew_137 rfl
theorem a_Mo_isNew_141 : dk_at b_Mo_isNew 141 t_Mo_isNew_141 := dk_go 3 a_Mo_isNew_138 rfl
theorem a_Mo_isNew_142 : dk_at b_Mo_isNew 142 t_Mo_isNew_142 := dk_go 1 a_Mo_isNew_141 rfl
theorem a_Mo_isNew_143 : dk_at b_Mo_isNew 143 t_Mo_isNew_143 := dk_go 1 a_Mo_isNew_142 rfl
theorem a_Mo_isNew_144 : dk_at b_Mo_isNew 144 t_Mo_isNew_144 := dk_go 1 a_Mo_isNew_143 rfl
theorem a_Mo_isNew_147 : dk_at b_Mo_isNew 147 t_Mo_isNew_147 := dk_go 3 a_Mo_isNew_144 rfl
theorem a_Mo_isNew_148 : dk_at b_Mo_isNew 148 t_Mo_isNew_148 := dk_go 1 a_Mo_isNew_147 rfl
theorem a_Mo_isNew_151 : dk_at b_Mo_isNew 151 t_Mo_isNew_151 := dk_go 3 a_Mo_isNew_148 rfl
theorem a_Mo_isNew_152 : dk_at b_Mo_isNew 152 t_Mo_isNew_152 := dk_go 1 a_Mo_isNew_151 rfl
theorem a_Mo_isNew_153 : dk_at b_Mo_isNew 153 t_Mo_isNew_153 := dk_go 1 a_Mo_isNew_152 rfl
theorem a_Mo_isNew_156 : dk_at b_Mo_isNew 156 t_Mo_isNew_156 := dk_go 3 a_Mo_isNew_153 rfl
theorem a_Mo_isNew_159 : dk_at b_Mo_isNew 159 t_Mo_isNew_159 := dk_go 3 a_Mo_isNew_156 rfl
theorem a_Mo_isNew_160 : dk_at b_Mo_isNew 160 t_Mo_isNew_160 := dk_go 1 a_Mo_isNew_159 rfl
theorem a_Mo_isNew_161 : dk_at b_Mo_isNew 161 t_Mo_isNew_161 := dk_go 1 a_Mo_isNew_160 rfl
theorem a_Mo_isNew_164 : dk_at b_Mo_isNew 164 t_Mo_isNew_164 := dk_go 3 a_Mo_isNew_161 rfl
theorem a_Mo_isNew_167 : dk_at b_Mo_isNew 167 t_Mo_isNew_167 := dk_go 3 a_Mo_isNew_164 rfl
theorem a_Mo_isNew_168 : dk_at b_Mo_isNew 168 t_Mo_isNew_168 := dk_go 1 a_Mo_isNew_167 rfl
theorem a_Mo_isNew_169 : dk_at b_Mo_isNew 169 t_Mo_isNew_169 := dk_go 1 a_Mo_isNew_168 rfl
theorem a_Mo_isNew_172 : dk_at b_Mo_isNew 172 t_Mo_isNew_172 := dk_go 3 a_Mo_isNew_169 rfl
theorem a_Mo_isNew_175 : dk_at b_Mo_isNew 175 t_Mo_isNew_175 := dk_go 3 a_Mo_isNew_172 rfl
theorem a_Mo_isNew_176 : dk_at b_Mo_isNew 176 t_Mo_isNew_176 := dk_go 1 a_Mo_isNew_175 rfl
theorem a_Mo_isNew_177 : dk_at b_Mo_isNew 177 t_Mo_isNew_177 := dk_go 1 a_Mo_isNew_176 rfl
theorem a_Mo_isNew_178 : dk_at b_Mo_isNew 178 t_Mo_isNew_178 := dk_go 1 a_Mo_isNew_177 rfl
theorem a_Mo_isNew_179 : dk_at b_Mo_isNew 179 t_Mo_isNew_179 := dk_go 1 a_Mo_isNew_178 rfl
theorem a_Mo_isNew_182 : dk_at b_Mo_isNew 182 t_Mo_isNew_182 := dk_go 3 a_Mo_isNew_179 rfl
theorem a_Mo_isNew_183 : dk_at b_Mo_isNew 183 t_Mo_isNew_183 := dk_go 1 a_Mo_isNew_182 rfl
theorem a_Mo_isNew_186 : dk_at b_Mo_isNew 186 t_Mo_isNew_186 := dk_go 3 a_Mo_isNew_183 rfl
theorem a_Mo_isNew_187 : dk_at b_Mo_isNew 187 t_Mo_isNew_187 := dk_go 1 a_Mo_isNew_186 rfl
theorem a_Mo_isNew_189 : dk_at b_Mo_isNew 189 t_Mo_isNew_189 := dk_go 2 a_Mo_isNew_187 rfl
theorem a_Mo_isNew_190 : dk_at b_Mo_isNew 190 t_Mo_isNew_190 := dk_go 1 a_Mo_isNew_189 rfl
theorem a_Mo_isNew_193 : dk_at b_Mo_isNew 193 t_Mo_isNew_193 := dk_go 3 a_Mo_isNew_190 rfl
theorem a_Mo_isNew_194 : dk_at b_Mo_isNew 194 t_Mo_isNew_194 := dk_go 1 a_Mo_isNew_193 rfl
theorem a_Mo_isNew_197 : dk_at b_Mo_isNew 197 t_Mo_isNew_197 := dk_go 3 a_Mo_isNew_194 rfl
theorem a_Mo_isNew_198 : dk_at b_Mo_isNew 198 t_Mo_isNew_198 := dk_go 1 a_Mo_isNew_197 rfl
theorem a_Mo_isNew_199 : dk_at b_Mo_isNew 199 t_Mo_isNew_199 := dk_go 1 a_Mo_isNew_198 rfl
theorem a_Mo_isNew_201 : dk_at b_Mo_isNew 201 t_Mo_isNew_201 := dk_go 2 a_Mo_isNew_199 rfl
theorem a_Mo_isNew_202 : dk_at b_Mo_isNew 202 t_Mo_isNew_202 := dk_go 1 a_Mo_isNew_201 rfl
theorem a_Mo_isNew_203 : dk_at b_Mo_isNew 203 t_Mo_isNew_203 := dk_go 1 a_Mo_isNew_202 rfl
theorem a_Mo_isNew_206 : dk_at b_Mo_isNew 206 t_Mo_isNew_206 := dk_go 3 a_Mo_isNew_203 rfl
theorem a_Mo_isNew_207 : dk_at b_Mo_isNew 207 t_Mo_isNew_207 := dk_go 1 a_Mo_isNew_206 rfl
theorem a_Mo_isNew_208 : dk_at b_Mo_isNew 208 t_Mo_isNew_208 := dk_go 1 a_Mo_isNew_207 rfl
theorem a_Mo_isNew_211 : dk_at b_Mo_isNew 211 t_Mo_isNew_211 := dk_go 3 a_Mo_isNew_208 rfl
theorem a_Mo_isNew_214 : dk_at b_Mo_isNew 214 t_Mo_isNew_214 := dk_go 3 a_Mo_isNew_211 rfl
theorem a_Mo_isNew_215 : dk_at b_Mo_isNew 215 t_Mo_isNew_215 := dk_go 1 a_Mo_isNew_214 rfl
theorem a_Mo_isNew_218 : dk_at b_Mo_isNew 218 t_Mo_isNew_218 := dk_go 3 a_Mo_isNew_215 rfl
theorem a_Mo_isNew_219 : dk_at b_Mo_isNew 219 t_Mo_isNew_219 := dk_go 1 a_Mo_isNew_218 rfl
theorem a_Mo_isNew_222 : dk_at b_Mo_isNew 222 t_Mo_isNew_222 := dk_go 3 a_Mo_isNew_219 rfl
theorem a_Mo_isNew_223 : dk_at b_Mo_isNew 223 t_Mo_isNew_223 := dk_go 1 a_Mo_isNew_222 rfl
theorem a_Mo_isNew_224 : dk_at b_Mo_isNew 224 t_Mo_isNew_224 := dk_go 1 a_Mo_isNew_223 rfl
theorem a_Mo_isNew_226 : dk_at b_Mo_isNew 226 t_Mo_isNew_226 := dk_go 2 a_Mo_isNew_224 rfl
theorem a_Mo_isNew_227 : dk_at b_Mo_isNew 227 t_Mo_isNew_227 := dk_go 1 a_Mo_isNew_226 rfl
theorem a_Mo_isNew_228 : dk_at b_Mo_isNew 228 t_Mo_isNew_228 := dk_go 1 a_Mo_isNew_227 rfl
theorem a_Mo_isNew_231 : dk_at b_Mo_isNew 231 t_Mo_isNew_231 := dk_go 3 a_Mo_isNew_228 rfl
theorem a_Mo_isNew_232 : dk_at b_Mo_isNew 232 t_Mo_isNew_232 := dk_go 1 a_Mo_isNew_231 rfl
theorem a_Mo_isNew_233 : dk_at b_Mo_isNew 233 t_Mo_isNew_233 := dk_go 1 a_Mo_isNew_232 rfl
theorem a_Mo_isNew_236 : dk_at b_Mo_isNew 236 t_Mo_isNew_236 := dk_go 3 a_Mo_isNew_233 rfl
theorem a_Mo_isNew_239 : dk_at b_Mo_isNew 239 t_Mo_isNew_239 := dk_go 3 a_Mo_isNew_236 rfl
theorem a_Mo_isNew_240 : dk_at b_Mo_isNew 240 t_Mo_isNew_240 := dk_go 1 a_Mo_isNew_239 rfl
theorem a_Mo_isNew_241 : dk_at b_Mo_isNew 241 t_Mo_isNew_241 := dk_go 1 a_Mo_isNew_240 rfl
theorem a_Mo_isNew_242 : dk_at b_Mo_isNew 242 t_Mo_isNew_242 := dk_go 1 a_Mo_isNew_241 rfl
theorem a_Mo_isNew_245 : dk_at b_Mo_isNew 245 t_Mo_isNew_245 := dk_go 3 a_Mo_isNew_242 rfl
theorem a_Mo_isNew_246 : dk_at b_Mo_isNew 246 t_Mo_isNew_246 := dk_go 1 a_Mo_isNew_245 rfl
theorem a_Mo_isNew_249 : dk_at b_Mo_isNew 249 t_Mo_isNew_249 := dk_go 3 a_Mo_isNew_246 rfl
theorem a_Mo_isNew_250 : dk_at b_Mo_isNew 250 t_Mo_isNew_250 := dk_go 1 a_Mo_isNew_249 rfl
theorem a_Mo_isNew_251 : dk_at b_Mo_isNew 251 t_Mo_isNew_251 := dk_go 1 a_Mo_isNew_250 rfl
theorem a_Mo_isNew_252 : dk_at b_Mo_isNew 252 t_Mo_isNew_252 := dk_go 1 a_Mo_isNew_251 rfl
theorem a_Mo_isNew_253 : dk_at b_Mo_isNew 253 t_Mo_isNew_253 := dk_go 1 a_Mo_isNew_252 rfl
theorem a_Mo_isNew_254 : dk_at b_Mo_isNew 254 t_Mo_isNew_254 := dk_go 1 a_Mo_isNew_253 rfl
theorem a_Mo_isNew_255 : dk_at b_Mo_isNew 255 t_Mo_isNew_255 := dk_go 1 a_Mo_isNew_254 rfl
theorem a_Mo_isNew_256 : dk_at b_Mo_isNew 256 t_Mo_isNew_256 := dk_go 1 a_Mo_isNew_255 rfl
theorem a_Mo_isNew_259 : dk_at b_Mo_isNew 259 t_Mo_isNew_259 := dk_go 3 a_Mo_isNew_256 rfl
theorem a_Mo_isNew_260 : dk_at b_Mo_isNew 260 t_Mo_isNew_260 := dk_go 1 a_Mo_isNew_259 rfl
theorem a_Mo_isNew_263 : dk_at b_Mo_isNew 263 t_Mo_isNew_263 := dk_go 3 a_Mo_isNew_260 rfl
theorem a_Mo_isNew_264 : dk_at b_Mo_isNew 264 t_Mo_isNew_264 := dk_go 1 a_Mo_isNew_263 rfl
theorem a_Mo_isNew_265 : dk_at b_Mo_isNew 265 t_Mo_isNew_265 := dk_go 1 a_Mo_isNew_264 rfl
theorem a_Mo_isNew_266 : dk_at b_Mo_isNew 266 t_Mo_isNew_266 := dk_go 1 a_Mo_isNew_265 rfl
theorem a_Mo_isNew_267 : dk_at b_Mo_isNew 267 t_Mo_isNew_267 := dk_go 1 a_Mo_isNew_266 rfl
theorem a_Mo_isNew_268 : dk_at b_Mo_isNew 268 t_Mo_isNew_268 := dk_go 1 a_Mo_isNew_267 rfl
theorem a_Mo_isNew_269 : dk_at b_Mo_isNew 269 t_Mo_isNew_269 := dk_go 1 a_Mo_isNew_268 rfl
theorem a_Mo_isNew_270 : dk_at b_Mo_isNew 270 t_Mo_isNew_270 := dk_go 1 a_Mo_isNew_269 rfl
theorem a_Mo_isNew_271 : dk_at b_Mo_isNew 271 t_Mo_isNew_271 := dk_go 1 a_Mo_isNew_270 rfl
theorem a_Mo_isNew_274 : dk_at b_Mo_isNew 274 t_Mo_isNew_274 := dk_go 3 a_Mo_isNew_271 rfl
theorem a_Mo_isNew_275 : dk_at b_Mo_isNew 275 t_Mo_isNew_275 := dk_go 1 a_Mo_isNew_274 rfl
theorem a_Mo_isNew_276 : dk_at b_Mo_isNew 276 t_Mo_isNew_276 := dk_go 1 a_Mo_isNew_275 rfl
theorem a_Mo_isNew_279 : dk_at b_Mo_isNew 279 t_Mo_isNew_279 := dk_go 3 a_Mo_isNew_276 rfl
theorem a_Mo_isNew_280 : dk_at b_Mo_isNew 280 t_Mo_isNew_280 := dk_go 1 a_Mo_isNew_279 rfl
theorem d_Mo_isNew_0 : decode b_Mo_isNew 0 = .ok (.iload_n 1, 1) := dk_0 a_Mo_isNew_0 (dko_27 _)
theorem d_Mo_isNew_1 : decode b_Mo_isNew 1 = .ok (.iconst 3, 1) := dk_0 a_Mo_isNew_1 (dko_6 _)
theorem d_Mo_isNew_2 : decode b_Mo_isNew 2 = .ok (.if_icmp .eq 112, 3) := dk_S2 a_Mo_isNew_2 (dko_159 _) (by decide +kernel)
theorem d_Mo_isNew_5 : decode b_Mo_isNew 5 = .ok (.aload_n 0, 1) := dk_0 a_Mo_isNew_5 (dko_42 _)
theorem d_Mo_isNew_6 : decode b_Mo_isNew 6 = .ok (.getfield 261, 3) := dk_U2 a_Mo_isNew_6 (dko_180 _) rfl
theorem d_Mo_isNew_9 : decode b_Mo_isNew 9 = .ok (.bipush 20, 2) := dk_S1 a_Mo_isNew_9 (dko_16 _) (by decide +kernel)
theorem d_Mo_isNew_11 : decode b_Mo_isNew 11 = .ok (.if_icmp .ge 49, 3) := dk_S2 a_Mo_isNew_11 (dko_162 _) (by decide +kernel)
theorem d_Mo_isNew_14 : decode b_Mo_isNew 14 = .ok (.iload_n 1, 1) := dk_0 a_Mo_isNew_14 (dko_27 _)
theorem d_Mo_isNew_15 : decode b_Mo_isNew 15 = .ok (.ifCond .ne 25, 3) := dk_S2 a_Mo_isNew_15 (dko_154 _) (by decide +kernel)
theorem d_Mo_isNew_18 : decode b_Mo_isNew 18 = .ok (.aload_n 0, 1) := dk_0 a_Mo_isNew_18 (dko_42 _)
theorem d_Mo_isNew_19 : decode b_Mo_isNew 19 = .ok (.getfield 74, 3) := dk_U2 a_Mo_isNew_19 (dko_180 _) rfl
theorem d_Mo_isNew_22 : decode b_Mo_isNew 22 = .ok (.iconst 0, 1) := dk_0 a_Mo_isNew_22 (dko_3 _)
theorem d_Mo_isNew_23 : decode b_Mo_isNew 23 = .ok (.iaload, 1) := dk_0 a_Mo_isNew_23 (dko_46 _)
theorem d_Mo_isNew_24 : decode b_Mo_isNew 24 = .ok (.iconst 1, 1) := dk_0 a_Mo_isNew_24 (dko_4 _)
theorem d_Mo_isNew_25 : decode b_Mo_isNew 25 = .ok (.if_icmp .lt 35, 3) := dk_S2 a_Mo_isNew_25 (dko_161 _) (by decide +kernel)
theorem d_Mo_isNew_28 : decode b_Mo_isNew 28 = .ok (.aload_n 0, 1) := dk_0 a_Mo_isNew_28 (dko_42 _)
theorem d_Mo_isNew_29 : decode b_Mo_isNew 29 = .ok (.getfield 74, 3) := dk_U2 a_Mo_isNew_29 (dko_180 _) rfl
theorem d_Mo_isNew_32 : decode b_Mo_isNew 32 = .ok (.iconst 0, 1) := dk_0 a_Mo_isNew_32 (dko_3 _)
theorem d_Mo_isNew_33 : decode b_Mo_isNew 33 = .ok (.iaload, 1) := dk_0 a_Mo_isNew_33 (dko_46 _)
theorem d_Mo_isNew_34 : decode b_Mo_isNew 34 = .ok (.ldc_w 264, 3) := dk_U2 a_Mo_isNew_34 (dko_19 _) rfl
theorem d_Mo_isNew_37 : decode b_Mo_isNew 37 = .ok (.if_icmp .gt 23, 3) := dk_S2 a_Mo_isNew_37 (dko_163 _) (by decide +kernel)
theorem d_Mo_isNew_40 : decode b_Mo_isNew 40 = .ok (.iload_n 1, 1) := dk_0 a_Mo_isNew_40 (dko_27 _)
theorem d_Mo_isNew_41 : decode b_Mo_isNew 41 = .ok (.iconst 2, 1) := dk_0 a_Mo_isNew_41 (dko_5 _)
theorem d_Mo_isNew_42 : decode b_Mo_isNew 42 = .ok (.if_icmp .ne 14, 3) := dk_S2 a_Mo_isNew_42 (dko_160 _) (by decide +kernel)
theorem d_Mo_isNew_45 : decode b_Mo_isNew 45 = .ok (.aload_n 0, 1) := dk_0 a_Mo_isNew_45 (dko_42 _)
theorem d_Mo_isNew_46 : decode b_Mo_isNew 46 = .ok (.getfield 74, 3) := dk_U2 a_Mo_isNew_46 (dko_180 _) rfl
theorem d_Mo_isNew_49 : decode b_Mo_isNew 49 = .ok (.iconst 0, 1) := dk_0 a_Mo_isNew_49 (dko_3 _)
theorem d_Mo_isNew_50 : decode b_Mo_isNew 50 = .ok (.iaload, 1) := dk_0 a_Mo_isNew_50 (dko_46 _)
theorem d_Mo_isNew_51 : decode b_Mo_isNew 51 = .ok (.bipush 7, 2) := dk_S1 a_Mo_isNew_51 (dko_16 _) (by decide +kernel)
theorem d_Mo_isNew_53 : decode b_Mo_isNew 53 = .ok (.if_icmp .gt 7, 3) := dk_S2 a_Mo_isNew_53 (dko_163 _) (by decide +kernel)
theorem d_Mo_isNew_56 : decode b_Mo_isNew 56 = .ok (.iconst 1, 1) := dk_0 a_Mo_isNew_56 (dko_4 _)
theorem d_Mo_isNew_57 : decode b_Mo_isNew 57 = .ok (.goto 4, 3) := dk_S2 a_Mo_isNew_57 (dko_167 _) (by decide +kernel)
theorem d_Mo_isNew_60 : decode b_Mo_isNew 60 = .ok (.iconst 0, 1) := dk_0 a_Mo_isNew_60 (dko_3 _)
theorem d_Mo_isNew_61 : decode b_Mo_isNew 61 = .ok (.istore_n 2, 1) := dk_0 a_Mo_isNew_61 (dko_61 _)
theorem d_Mo_isNew_62 : decode b_Mo_isNew 62 = .ok (.iload_n 2, 1) := dk_0 a_Mo_isNew_62 (dko_28 _)
theorem d_Mo_isNew_63 : decode b_Mo_isNew 63 = .ok (.ifCond .eq 49, 3) := dk_S2 a_Mo_isNew_63 (dko_153 _) (by decide +kernel)
theorem d_Mo_isNew_66 : decode b_Mo_isNew 66 = .ok (.aload_n 0, 1) := dk_0 a_Mo_isNew_66 (dko_42 _)
theorem d_Mo_isNew_67 : decode b_Mo_isNew 67 = .ok (.getfield 77, 3) := dk_U2 a_Mo_isNew_67 (dko_180 _) rfl
theorem d_Mo_isNew_70 : decode b_Mo_isNew 70 = .ok (.aload_n 0, 1) := dk_0 a_Mo_isNew_70 (dko_42 _)
theorem d_Mo_isNew_71 : decode b_Mo_isNew 71 = .ok (.getfield 261, 3) := dk_U2 a_Mo_isNew_71 (dko_180 _) rfl
theorem d_Mo_isNew_74 : decode b_Mo_isNew 74 = .ok (.iload_n 1, 1) := dk_0 a_Mo_isNew_74 (dko_27 _)
theorem d_Mo_isNew_75 : decode b_Mo_isNew 75 = .ok (.iconst 2, 1) := dk_0 a_Mo_isNew_75 (dko_5 _)
theorem d_Mo_isNew_76 : decode b_Mo_isNew 76 = .ok (.if_icmp .ne 14, 3) := dk_S2 a_Mo_isNew_76 (dko_160 _) (by decide +kernel)
theorem d_Mo_isNew_79 : decode b_Mo_isNew 79 = .ok (.iconst 2, 1) := dk_0 a_Mo_isNew_79 (dko_5 _)
theorem d_Mo_isNew_80 : decode b_Mo_isNew 80 = .ok (.aload_n 0, 1) := dk_0 a_Mo_isNew_80 (dko_42 _)
theorem d_Mo_isNew_81 : decode b_Mo_isNew 81 = .ok (.getfield 74, 3) := dk_U2 a_Mo_isNew_81 (dko_180 _) rfl
theorem d_Mo_isNew_84 : decode b_Mo_isNew 84 = .ok (.iconst 0, 1) := dk_0 a_Mo_isNew_84 (dko_3 _)
theorem d_Mo_isNew_85 : decode b_Mo_isNew 85 = .ok (.iaload, 1) := dk_0 a_Mo_isNew_85 (dko_46 _)
theorem d_Mo_isNew_86 : decode b_Mo_isNew 86 = .ok (.iadd, 1) := dk_0 a_Mo_isNew_86 (dko_96 _)
theorem d_Mo_isNew_87 : decode b_Mo_isNew 87 = .ok (.goto 4, 3) := dk_S2 a_Mo_isNew_87 (dko_167 _) (by decide +kernel)
theorem d_Mo_isNew_90 : decode b_Mo_isNew 90 = .ok (.iload_n 1, 1) := dk_0 a_Mo_isNew_90 (dko_27 _)
theorem d_Mo_isNew_91 : decode b_Mo_isNew 91 = .ok (.iastore, 1) := dk_0 a_Mo_isNew_91 (dko_79 _)
theorem d_Mo_isNew_92 : decode b_Mo_isNew 92 = .ok (.aload_n 0, 1) := dk_0 a_Mo_isNew_92 (dko_42 _)
theorem d_Mo_isNew_93 : decode b_Mo_isNew 93 = .ok (.getfield 80, 3) := dk_U2 a_Mo_isNew_93 (dko_180 _) rfl
theorem d_Mo_isNew_96 : decode b_Mo_isNew 96 = .ok (.aload_n 0, 1) := dk_0 a_Mo_isNew_96 (dko_42 _)
theorem d_Mo_isNew_97 : decode b_Mo_isNew 97 = .ok (.getfield 261, 3) := dk_U2 a_Mo_isNew_97 (dko_180 _) rfl
theorem d_Mo_isNew_100 : decode b_Mo_isNew 100 = .ok (.iconst 0, 1) := dk_0 a_Mo_isNew_100 (dko_3 _)
theorem d_Mo_isNew_101 : decode b_Mo_isNew 101 = .ok (.iastore, 1) := dk_0 a_Mo_isNew_101 (dko_79 _)
theorem d_Mo_isNew_102 : decode b_Mo_isNew 102 = .ok (.aload_n 0, 1) := dk_0 a_Mo_isNew_102 (dko_42 _)
theorem d_Mo_isNew_103 : decode b_Mo_isNew 103 = .ok (.dup, 1) := dk_0 a_Mo_isNew_103 (dko_89 _)
theorem d_Mo_isNew_104 : decode b_Mo_isNew 104 = .ok (.getfield 261, 3) := dk_U2 a_Mo_isNew_104 (dko_180 _) rfl
theorem d_Mo_isNew_107 : decode b_Mo_isNew 107 = .ok (.iconst 1, 1) := dk_0 a_Mo_isNew_107 (dko_4 _)
theorem d_Mo_isNew_108 : decode b_Mo_isNew 108 = .ok (.iadd, 1) := dk_0 a_Mo_isNew_108 (dko_96 _)
theorem d_Mo_isNew_109 : decode b_Mo_isNew 109 = .ok (.putfield 261, 3) := dk_U2 a_Mo_isNew_109 (dko_181 _) rfl
theorem d_Mo_isNew_112 : decode b_Mo_isNew 112 = .ok (.iload_n 2, 1) := dk_0 a_Mo_isNew_112 (dko_28 _)
theorem d_Mo_isNew_113 : decode b_Mo_isNew 113 = .ok (.ireturn, 1) := dk_0 a_Mo_isNew_113 (dko_172 _)
theorem d_Mo_isNew_114 : decode b_Mo_isNew 114 = .ok (.aload_n 0, 1) := dk_0 a_Mo_isNew_114 (dko_42 _)
theorem d_Mo_isNew_115 : decode b_Mo_isNew 115 = .ok (.getfield 74, 3) := dk_U2 a_Mo_isNew_115 (dko_180 _) rfl
theorem d_Mo_isNew_118 : decode b_Mo_isNew 118 = .ok (.iconst 0, 1) := dk_0 a_Mo_isNew_118 (dko_3 _)
theorem d_Mo_isNew_119 : decode b_Mo_isNew 119 = .ok (.iaload, 1) := dk_0 a_Mo_isNew_119 (dko_46 _)
theorem d_Mo_isNew_120 : decode b_Mo_isNew 120 = .ok (.istore_n 2, 1) := dk_0 a_Mo_isNew_120 (dko_61 _)
theorem d_Mo_isNew_121 : decode b_Mo_isNew 121 = .ok (.aload_n 0, 1) := dk_0 a_Mo_isNew_121 (dko_42 _)
theorem d_Mo_isNew_122 : decode b_Mo_isNew 122 = .ok (.getfield 74, 3) := dk_U2 a_Mo_isNew_122 (dko_180 _) rfl
theorem d_Mo_isNew_125 : decode b_Mo_isNew 125 = .ok (.iconst 1, 1) := dk_0 a_Mo_isNew_125 (dko_4 _)
theorem d_Mo_isNew_126 : decode b_Mo_isNew 126 = .ok (.iaload, 1) := dk_0 a_Mo_isNew_126 (dko_46 _)
theorem d_Mo_isNew_127 : decode b_Mo_isNew 127 = .ok (.istore_n 3, 1) := dk_0 a_Mo_isNew_127 (dko_62 _)
theorem d_Mo_isNew_128 : decode b_Mo_isNew 128 = .ok (.aload_n 0, 1) := dk_0 a_Mo_isNew_128 (dko_42 _)
theorem d_Mo_isNew_129 : decode b_Mo_isNew 129 = .ok (.getfield 265, 3) := dk_U2 a_Mo_isNew_129 (dko_180 _) rfl
theorem d_Mo_isNew_132 : decode b_Mo_isNew 132 = .ok (.bipush 24, 2) := dk_S1 a_Mo_isNew_132 (dko_16 _) (by decide +kernel)
theorem d_Mo_isNew_134 : decode b_Mo_isNew 134 = .ok (.if_icmp .eq 41, 3) := dk_S2 a_Mo_isNew_134 (dko_159 _) (by decide +kernel)
theorem d_Mo_isNew_137 : decode b_Mo_isNew 137 = .ok (.aload_n 0, 1) := dk_0 a_Mo_isNew_137 (dko_42 _)
theorem d_Mo_isNew_138 : decode b_Mo_isNew 138 = .ok (.getfield 74, 3) := dk_U2 a_Mo_isNew_138 (dko_180 _) rfl
theorem d_Mo_isNew_141 : decode b_Mo_isNew 141 = .ok (.iconst 2, 1) := dk_0 a_Mo_isNew_141 (dko_5 _)
theorem d_Mo_isNew_142 : decode b_Mo_isNew 142 = .ok (.iaload, 1) := dk_0 a_Mo_isNew_142 (dko_46 _)
theorem d_Mo_isNew_143 : decode b_Mo_isNew 143 = .ok (.iconst 1, 1) := dk_0 a_Mo_isNew_143 (dko_4 _)
theorem d_Mo_isNew_144 : decode b_Mo_isNew 144 = .ok (.if_icmp .lt 31, 3) := dk_S2 a_Mo_isNew_144 (dko_161 _) (by decide +kernel)
theorem d_Mo_isNew_147 : decode b_Mo_isNew 147 = .ok (.aload_n 0, 1) := dk_0 a_Mo_isNew_147 (dko_42 _)
theorem d_Mo_isNew_148 : decode b_Mo_isNew 148 = .ok (.getfield 74, 3) := dk_U2 a_Mo_isNew_148 (dko_180 _) rfl
theorem d_Mo_isNew_151 : decode b_Mo_isNew 151 = .ok (.iconst 2, 1) := dk_0 a_Mo_isNew_151 (dko_5 _)
theorem d_Mo_isNew_152 : decode b_Mo_isNew 152 = .ok (.iaload, 1) := dk_0 a_Mo_isNew_152 (dko_46 _)
theorem d_Mo_isNew_153 : decode b_Mo_isNew 153 = .ok (.sipush 200, 3) := dk_S2 a_Mo_isNew_153 (dko_17 _) (by decide +kernel)
theorem d_Mo_isNew_156 : decode b_Mo_isNew 156 = .ok (.if_icmp .gt 19, 3) := dk_S2 a_Mo_isNew_156 (dko_163 _) (by decide +kernel)
theorem d_Mo_isNew_159 : decode b_Mo_isNew 159 = .ok (.iload_n 2, 1) := dk_0 a_Mo_isNew_159 (dko_28 _)
theorem d_Mo_isNew_160 : decode b_Mo_isNew 160 = .ok (.aload_n 0, 1) := dk_0 a_Mo_isNew_160 (dko_42 _)
theorem d_Mo_isNew_161 : decode b_Mo_isNew 161 = .ok (.getfield 261, 3) := dk_U2 a_Mo_isNew_161 (dko_180 _) rfl
theorem d_Mo_isNew_164 : decode b_Mo_isNew 164 = .ok (.if_icmp .ge 11, 3) := dk_S2 a_Mo_isNew_164 (dko_162 _) (by decide +kernel)
theorem d_Mo_isNew_167 : decode b_Mo_isNew 167 = .ok (.iload_n 3, 1) := dk_0 a_Mo_isNew_167 (dko_29 _)
theorem d_Mo_isNew_168 : decode b_Mo_isNew 168 = .ok (.aload_n 0, 1) := dk_0 a_Mo_isNew_168 (dko_42 _)
theorem d_Mo_isNew_169 : decode b_Mo_isNew 169 = .ok (.getfield 261, 3) := dk_U2 a_Mo_isNew_169 (dko_180 _) rfl
theorem d_Mo_isNew_172 : decode b_Mo_isNew 172 = .ok (.if_icmp .lt 5, 3) := dk_S2 a_Mo_isNew_172 (dko_161 _) (by decide +kernel)
theorem d_Mo_isNew_175 : decode b_Mo_isNew 175 = .ok (.iconst 0, 1) := dk_0 a_Mo_isNew_175 (dko_3 _)
theorem d_Mo_isNew_176 : decode b_Mo_isNew 176 = .ok (.ireturn, 1) := dk_0 a_Mo_isNew_176 (dko_172 _)
theorem d_Mo_isNew_177 : decode b_Mo_isNew 177 = .ok (.iload_n 2, 1) := dk_0 a_Mo_isNew_177 (dko_28 _)
theorem d_Mo_isNew_178 : decode b_Mo_isNew 178 = .ok (.iload_n 3, 1) := dk_0 a_Mo_isNew_178 (dko_29 _)
theorem d_Mo_isNew_179 : decode b_Mo_isNew 179 = .ok (.if_icmp .ne 7, 3) := dk_S2 a_Mo_isNew_179 (dko_160 _) (by decide +kernel)
theorem d_Mo_isNew_182 : decode b_Mo_isNew 182 = .ok (.iconst 1, 1) := dk_0 a_Mo_isNew_182 (dko_4 _)
theorem d_Mo_isNew_183 : decode b_Mo_isNew 183 = .ok (.goto 4, 3) := dk_S2 a_Mo_isNew_183 (dko_167 _) (by decide +kernel)
theorem d_Mo_isNew_186 : decode b_Mo_isNew 186 = .ok (.iconst 0, 1) := dk_0 a_Mo_isNew_186 (dko_3 _)
theorem d_Mo_isNew_187 : decode b_Mo_isNew 187 = .ok (.istore 4, 2) := dk_U1 a_Mo_isNew_187 (dko_54 _) rfl
theorem d_Mo_isNew_189 : decode b_Mo_isNew 189 = .ok (.iload_n 2, 1) := dk_0 a_Mo_isNew_189 (dko_28 _)
theorem d_Mo_isNew_190 : decode b_Mo_isNew 190 = .ok (.ifCond .lt 24, 3) := dk_S2 a_Mo_isNew_190 (dko_155 _) (by decide +kernel)
theorem d_Mo_isNew_193 : decode b_Mo_isNew 193 = .ok (.aload_n 0, 1) := dk_0 a_Mo_isNew_193 (dko_42 _)
theorem d_Mo_isNew_194 : decode b_Mo_isNew 194 = .ok (.getfield 80, 3) := dk_U2 a_Mo_isNew_194 (dko_180 _) rfl
theorem d_Mo_isNew_197 : decode b_Mo_isNew 197 = .ok (.iload_n 2, 1) := dk_0 a_Mo_isNew_197 (dko_28 _)
theorem d_Mo_isNew_198 : decode b_Mo_isNew 198 = .ok (.iaload, 1) := dk_0 a_Mo_isNew_198 (dko_46 _)
theorem d_Mo_isNew_199 : decode b_Mo_isNew 199 = .ok (.iload 4, 2) := dk_U1 a_Mo_isNew_199 (dko_21 _) rfl
theorem d_Mo_isNew_201 : decode b_Mo_isNew 201 = .ok (.iadd, 1) := dk_0 a_Mo_isNew_201 (dko_96 _)
theorem d_Mo_isNew_202 : decode b_Mo_isNew 202 = .ok (.aload_n 0, 1) := dk_0 a_Mo_isNew_202 (dko_42 _)
theorem d_Mo_isNew_203 : decode b_Mo_isNew 203 = .ok (.getfield 77, 3) := dk_U2 a_Mo_isNew_203 (dko_180 _) rfl
theorem d_Mo_isNew_206 : decode b_Mo_isNew 206 = .ok (.iload_n 2, 1) := dk_0 a_Mo_isNew_206 (dko_28 _)
theorem d_Mo_isNew_207 : decode b_Mo_isNew 207 = .ok (.iaload, 1) := dk_0 a_Mo_isNew_207 (dko_46 _)
theorem d_Mo_isNew_208 : decode b_Mo_isNew 208 = .ok (.invokestatic 268, 3) := dk_U2 a_Mo_isNew_208 (dko_184 _) rfl
theorem d_Mo_isNew_211 : decode b_Mo_isNew 211 = .ok (.if_icmp .ge 28, 3) := dk_S2 a_Mo_isNew_211 (dko_162 _) (by decide +kernel)
theorem d_Mo_isNew_214 : decode b_Mo_isNew 214 = .ok (.iload_n 3, 1) := dk_0 a_Mo_isNew_214 (dko_29 _)
theorem d_Mo_isNew_215 : decode b_Mo_isNew 215 = .ok (.ifCond .lt 26, 3) := dk_S2 a_Mo_isNew_215 (dko_155 _) (by decide +kernel)
theorem d_Mo_isNew_218 : decode b_Mo_isNew 218 = .ok (.aload_n 0, 1) := dk_0 a_Mo_isNew_218 (dko_42 _)
theorem d_Mo_isNew_219 : decode b_Mo_isNew 219 = .ok (.getfield 80, 3) := dk_U2 a_Mo_isNew_219 (dko_180 _) rfl
theorem d_Mo_isNew_222 : decode b_Mo_isNew 222 = .ok (.iload_n 3, 1) := dk_0 a_Mo_isNew_222 (dko_29 _)
theorem d_Mo_isNew_223 : decode b_Mo_isNew 223 = .ok (.iaload, 1) := dk_0 a_Mo_isNew_223 (dko_46 _)
theorem d_Mo_isNew_224 : decode b_Mo_isNew 224 = .ok (.iload 4, 2) := dk_U1 a_Mo_isNew_224 (dko_21 _) rfl
theorem d_Mo_isNew_226 : decode b_Mo_isNew 226 = .ok (.iadd, 1) := dk_0 a_Mo_isNew_226 (dko_96 _)
theorem d_Mo_isNew_227 : decode b_Mo_isNew 227 = .ok (.aload_n 0, 1) := dk_0 a_Mo_isNew_227 (dko_42 _)
theorem d_Mo_isNew_228 : decode b_Mo_isNew 228 = .ok (.getfield 77, 3) := dk_U2 a_Mo_isNew_228 (dko_180 _) rfl
theorem d_Mo_isNew_231 : decode b_Mo_isNew 231 = .ok (.iload_n 3, 1) := dk_0 a_Mo_isNew_231 (dko_29 _)
theorem d_Mo_isNew_232 : decode b_Mo_isNew 232 = .ok (.iaload, 1) := dk_0 a_Mo_isNew_232 (dko_46 _)
theorem d_Mo_isNew_233 : decode b_Mo_isNew 233 = .ok (.invokestatic 268, 3) := dk_U2 a_Mo_isNew_233 (dko_184 _) rfl
theorem d_Mo_isNew_236 : decode b_Mo_isNew 236 = .ok (.if_icmp .lt 5, 3) := dk_S2 a_Mo_isNew_236 (dko_161 _) (by decide +kernel)
theorem d_Mo_isNew_239 : decode b_Mo_isNew 239 = .ok (.iconst 0, 1) := dk_0 a_Mo_isNew_239 (dko_3 _)
theorem d_Mo_isNew_240 : decode b_Mo_isNew 240 = .ok (.ireturn, 1) := dk_0 a_Mo_isNew_240 (dko_172 _)
theorem d_Mo_isNew_241 : decode b_Mo_isNew 241 = .ok (.iload_n 2, 1) := dk_0 a_Mo_isNew_241 (dko_28 _)
theorem d_Mo_isNew_242 : decode b_Mo_isNew 242 = .ok (.ifCond .lt 13, 3) := dk_S2 a_Mo_isNew_242 (dko_155 _) (by decide +kernel)
theorem d_Mo_isNew_245 : decode b_Mo_isNew 245 = .ok (.aload_n 0, 1) := dk_0 a_Mo_isNew_245 (dko_42 _)
theorem d_Mo_isNew_246 : decode b_Mo_isNew 246 = .ok (.getfield 80, 3) := dk_U2 a_Mo_isNew_246 (dko_180 _) rfl
theorem d_Mo_isNew_249 : decode b_Mo_isNew 249 = .ok (.iload_n 2, 1) := dk_0 a_Mo_isNew_249 (dko_28 _)
theorem d_Mo_isNew_250 : decode b_Mo_isNew 250 = .ok (.dup2, 1) := dk_0 a_Mo_isNew_250 (dko_92 _)
theorem d_Mo_isNew_251 : decode b_Mo_isNew 251 = .ok (.iaload, 1) := dk_0 a_Mo_isNew_251 (dko_46 _)
theorem d_Mo_isNew_252 : decode b_Mo_isNew 252 = .ok (.iconst 1, 1) := dk_0 a_Mo_isNew_252 (dko_4 _)
theorem d_Mo_isNew_253 : decode b_Mo_isNew 253 = .ok (.iadd, 1) := dk_0 a_Mo_isNew_253 (dko_96 _)
theorem d_Mo_isNew_254 : decode b_Mo_isNew 254 = .ok (.iastore, 1) := dk_0 a_Mo_isNew_254 (dko_79 _)
theorem d_Mo_isNew_255 : decode b_Mo_isNew 255 = .ok (.iload_n 3, 1) := dk_0 a_Mo_isNew_255 (dko_29 _)
theorem d_Mo_isNew_256 : decode b_Mo_isNew 256 = .ok (.ifCond .lt 13, 3) := dk_S2 a_Mo_isNew_256 (dko_155 _) (by decide +kernel)
theorem d_Mo_isNew_259 : decode b_Mo_isNew 259 = .ok (.aload_n 0, 1) := dk_0 a_Mo_isNew_259 (dko_42 _)
theorem d_Mo_isNew_260 : decode b_Mo_isNew 260 = .ok (.getfield 80, 3) := dk_U2 a_Mo_isNew_260 (dko_180 _) rfl
theorem d_Mo_isNew_263 : decode b_Mo_isNew 263 = .ok (.iload_n 3, 1) := dk_0 a_Mo_isNew_263 (dko_29 _)
theorem d_Mo_isNew_264 : decode b_Mo_isNew 264 = .ok (.dup2, 1) := dk_0 a_Mo_isNew_264 (dko_92 _)
theorem d_Mo_isNew_265 : decode b_Mo_isNew 265 = .ok (.iaload, 1) := dk_0 a_Mo_isNew_265 (dko_46 _)
theorem d_Mo_isNew_266 : decode b_Mo_isNew 266 = .ok (.iconst 1, 1) := dk_0 a_Mo_isNew_266 (dko_4 _)
theorem d_Mo_isNew_267 : decode b_Mo_isNew 267 = .ok (.iadd, 1) := dk_0 a_Mo_isNew_267 (dko_96 _)
theorem d_Mo_isNew_268 : decode b_Mo_isNew 268 = .ok (.iastore, 1) := dk_0 a_Mo_isNew_268 (dko_79 _)
theorem d_Mo_isNew_269 : decode b_Mo_isNew 269 = .ok (.aload_n 0, 1) := dk_0 a_Mo_isNew_269 (dko_42 _)
theorem d_Mo_isNew_270 : decode b_Mo_isNew 270 = .ok (.dup, 1) := dk_0 a_Mo_isNew_270 (dko_89 _)
theorem d_Mo_isNew_271 : decode b_Mo_isNew 271 = .ok (.getfield 265, 3) := dk_U2 a_Mo_isNew_271 (dko_180 _) rfl
theorem d_Mo_isNew_274 : decode b_Mo_isNew 274 = .ok (.iconst 1, 1) := dk_0 a_Mo_isNew_274 (dko_4 _)
theorem d_Mo_isNew_275 : decode b_Mo_isNew 275 = .ok (.iadd, 1) := dk_0 a_Mo_isNew_275 (dko_96 _)
theorem d_Mo_isNew_276 : decode b_Mo_isNew 276 = .ok (.putfield 265, 3) := dk_U2 a_Mo_isNew_276 (dko_181 _) rfl
theorem d_Mo_isNew_279 : decode b_Mo_isNew 279 = .ok (.iconst 1, 1) := dk_0 a_Mo_isNew_279 (dko_4 _)
theorem d_Mo_isNew_280 : decode b_Mo_isNew 280 = .ok (.ireturn, 1) := dk_0 a_Mo_isNew_280 (dko_172 _)
set_option maxHeartbeats 4000000 in
set_option maxRecDepth 100000 in
theorem ok_Mo_isNew (pc : Nat) : OpS mt mi_Mo_isNew pc (cs_Mo_isNew pc) := (os_n (os_n (os_n (os_n (os_n (os_n (os_n (os_l (so_iload_n d_Mo_isNew_0 rfl)) (os_l (so_iconst d_Mo_isNew_1 (by decide)))) (os_n (os_l (so_iceq d_Mo_isNew_2 (by decide))) (os_n (os_l (so_aload_n d_Mo_isNew_5 rfl)) (os_l (so_get (C := R_Mo) (T := F_Mo) (N := 87) (j := 85) in_Mo rfl (by decide) mw_1879 d_Mo_isNew_6))))) (os_n (os_n (os_l (so_bipush d_Mo_isNew_9 (by decide))) (os_l (so_icge d_Mo_isNew_11 (by decide)))) (os_n (os_l (so_iload_n d_Mo_isNew_14 rfl)) (os_n (os_l (so_ifne d_Mo_isNew_15 (by decide))) (os_l (so_aload_n d_Mo_isNew_18 rfl)))))) (os_n (os_n (os_n (os_l (so_get (C := R_Mo) (T := F_Mo) (N := 87) (j := 23) in_Mo rfl (by decide) mw_1817 d_Mo_isNew_19)) (os_l (so_iconst d_Mo_isNew_22 (by decide)))) (os_n (os_l (so_iaload d_Mo_isNew_23)) (os_n (os_l (so_iconst d_Mo_isNew_24 (by decide))) (os_l (so_iclt d_Mo_isNew_25 (by decide)))))) (os_n (os_n (os_l (so_aload_n d_Mo_isNew_28 rfl)) (os_l (so_get (C := R_Mo) (T := F_Mo) (N := 87) (j := 23) in_Mo rfl (by decide) mw_1817 d_Mo_isNew_29))) (os_n (os_l (so_iconst d_Mo_isNew_32 (by decide))) (os_n (os_l (so_iaload d_Mo_isNew_33)) (os_l (so_ldcw mw_2095 d_Mo_isNew_34))))))) (os_n (os_n (os_n (os_n (os_l (so_icgt d_Mo_isNew_37 (by decide))) (os_l (so_iload_n d_Mo_isNew_40 rfl))) (os_n (os_l (so_iconst d_Mo_isNew_41 (by decide))) (os_n (os_l (so_icne d_Mo_isNew_42 (by decide))) (os_l (so_aload_n d_Mo_isNew_45 rfl))))) (os_n (os_n (os_l (so_get (C := R_Mo) (T := F_Mo) (N := 87) (j := 23) in_Mo rfl (by decide) mw_1817 d_Mo_isNew_46)) (os_l (so_iconst d_Mo_isNew_49 (by decide)))) (os_n (os_l (so_iaload d_Mo_isNew_50)) (os_n (os_l (so_bipush d_Mo_isNew_51 (by decide))) (os_l (so_icgt d_Mo_isNew_53 (by decide))))))) (os_n (os_n (os_n (os_l (so_iconst d_Mo_isNew_56 (by decide))) (os_l (so_goto d_Mo_isNew_57 (by decide)))) (os_n (os_l (so_iconst d_Mo_isNew_60 (by decide))) (os_n (os_l (so_istore_n d_Mo_isNew_61 rfl (by decide))) (os_l (so_iload_n d_Mo_isNew_62 rfl))))) (os_n (os_n (os_l (so_ifeq d_Mo_isNew_63 (by decide))) (os_n (os_l (so_aload_n d_Mo_isNew_66 rfl)) (os_l (so_get (C := R_Mo) (T := F_Mo) (N := 87) (j := 24) in_Mo rfl (by decide) mw_1818 d_Mo_isNew_67)))) (os_n (os_l (so_aload_n d_Mo_isNew_70 rfl)) (os_n (os_l (so_get (C := R_Mo) (T := F_Mo) (N := 87) (j := 85) in_Mo rfl (by decide) mw_1879 d_Mo_isNew_71)) (os_l (so_iload_n d_Mo_isNew_74 rfl)))))))) (os_n (os_n (os_n (os_n (os_n (os_l (so_iconst d_Mo_isNew_75 (by decide))) (os_l (so_icne d_Mo_isNew_76 (by decide)))) (os_n (os_l (so_iconst d_Mo_isNew_79 (by decide))) (os_n (os_l (so_aload_n d_Mo_isNew_80 rfl)) (os_l (so_get (C := R_Mo) (T := F_Mo) (N := 87) (j := 23) in_Mo rfl (by decide) mw_1817 d_Mo_isNew_81))))) (os_n (os_n (os_l (so_iconst d_Mo_isNew_84 (by decide))) (os_l (so_iaload d_Mo_isNew_85))) (os_n (os_l (so_iadd d_Mo_isNew_86)) (os_n (os_l (so_goto d_Mo_isNew_87 (by decide))) (os_l (so_iload_n d_Mo_isNew_90 rfl)))))) (os_n (os_n (os_n (os_l (so_iastore d_Mo_isNew_91)) (os_l (so_aload_n d_Mo_isNew_92 rfl))) (os_n (os_l (so_get (C := R_Mo) (T := F_Mo) (N := 87) (j := 25) in_Mo rfl (by decide) mw_1819 d_Mo_isNew_93)) (os_n (os_l (so_aload_n d_Mo_isNew_96 rfl)) (os_l (so_get (C := R_Mo) (T := F_Mo) (N := 87) (j := 85) in_Mo rfl (by decide) mw_1879 d_Mo_isNew_97))))) (os_n (os_n (os_l (so_iconst d_Mo_isNew_100 (by decide))) (os_n (os_l (so_iastore d_Mo_isNew_101)) (os_l (so_aload_n d_Mo_isNew_102 rfl)))) (os_n (os_l (so_dup d_Mo_isNew_103)) (os_n (os_l (so_get (C := R_Mo) (T := F_Mo) (N := 87) (j := 85) in_Mo rfl (by decide) mw_1879 d_Mo_isNew_104)) (os_l (so_iconst d_Mo_isNew_107 (by decide)))))))) (os_n (os_n (os_n (os_n (os_l (so_iadd d_Mo_isNew_108)) (os_l (so_putI (C := R_Mo) (T := F_Mo) (N := 87) (j := 85) in_Mo t_Mo_ok n_Mo rfl (by decide) mw_1879 rfl (by decide +kernel) d_Mo_isNew_109))) (os_n (os_l (so_iload_n d_Mo_isNew_112 rfl)) (os_n (os_l (so_zreturn rfl d_Mo_isNew_113)) (os_l (so_aload_n d_Mo_isNew_114 rfl))))) (os_n (os_n (os_l (so_get (C := R_Mo) (T := F_Mo) (N := 87) (j := 23) in_Mo rfl (by decide) mw_1817 d_Mo_isNew_115)) (os_l (so_iconst d_Mo_isNew_118 (by decide)))) (os_n (os_l (so_iaload d_Mo_isNew_119)) (os_n (os_l (so_istore_n d_Mo_isNew_120 rfl (by decide))) (os_l (so_aload_n d_Mo_isNew_121 rfl)))))) (os_n (os_n (os_n (os_l (so_get (C := R_Mo) (T := F_Mo) (N := 87) (j := 23) in_Mo rfl (by decide) mw_1817 d_Mo_isNew_122)) (os_l (so_iconst d_Mo_isNew_125 (by decide)))) (os_n (os_l (so_iaload d_Mo_isNew_126)) (os_n (os_l (so_istore_n d_Mo_isNew_127 rfl (by decide))) (os_l (so_aload_n d_Mo_isNew_128 rfl))))) (os_n (os_n (os_l (so_get (C := R_Mo) (T := F_Mo) (N := 87) (j := 86) in_Mo rfl (by decide) mw_1880 d_Mo_isNew_129)) (os_n (os_l (so_bipush d_Mo_isNew_132 (by decide))) (os_l (so_iceq d_Mo_isNew_134 (by decide))))) (os_n (os_l (so_aload_n d_Mo_isNew_137 rfl)) (os_n (os_l (so_get (C := R_Mo) (T := F_Mo) (N := 87) (j := 23) in_Mo rfl (by decide) mw_1817 d_Mo_isNew_138)) (os_l (so_iconst d_Mo_isNew_141 (by decide)))))))))) (os_n (os_n (os_n (os_n (os_n (os_n (os_l (so_iaload d_Mo_isNew_142)) (os_l (so_iconst d_Mo_isNew_143 (by decide)))) (os_n (os_l (so_iclt d_Mo_isNew_144 (by decide))) (os_n (os_l (so_aload_n d_Mo_isNew_147 rfl)) (os_l (so_get (C := R_Mo) (T := F_Mo) (N := 87) (j := 23) in_Mo rfl (by decide) mw_1817 d_Mo_isNew_148))))) (os_n (os_n (os_l (so_iconst d_Mo_isNew_151 (by decide))) (os_l (so_iaload d_Mo_isNew_152))) (os_n (os_l (so_sipush d_Mo_isNew_153 (by decide))) (os_n (os_l (so_icgt d_Mo_isNew_156 (by decide))) (os_l (so_iload_n d_Mo_isNew_159 rfl)))))) (os_n (os_n (os_n (os_l (so_aload_n d_Mo_isNew_160 rfl)) (os_l (so_get (C := R_Mo) (T := F_Mo) (N := 87) (j := 85) in_Mo rfl (by decide) mw_1879 d_Mo_isNew_161))) (os_n (os_l (so_icge d_Mo_isNew_164 (by decide))) (os_n (os_l (so_iload_n d_Mo_isNew_167 rfl)) (os_l (so_aload_n d_Mo_isNew_168 rfl))))) (os_n (os_n (os_l (so_get (C := R_Mo) (T := F_Mo) (N := 87) (j := 85) in_Mo rfl (by decide) mw_1879 d_Mo_isNew_169)) (os_n (os_l (so_iclt d_Mo_isNew_172 (by decide))) (os_l (so_iconst d_Mo_isNew_175 (by decide))))) (os_n (os_l (so_zreturn rfl d_Mo_isNew_176)) (os_n (os_l (so_iload_n d_Mo_isNew_177 rfl)) (os_l (so_iload_n d_Mo_isNew_178 rfl))))))) (os_n (os_n (os_n (os_n (os_l (so_icne d_Mo_isNew_179 (by decide))) (os_l (so_iconst d_Mo_isNew_182 (by decide)))) (os_n (os_l (so_goto d_Mo_isNew_183 (by decide))) (os_n (os_l (so_iconst d_Mo_isNew_186 (by decide))) (os_l (so_istore d_Mo_isNew_187 (by decide)))))) (os_n (os_n (os_l (so_iload_n d_Mo_isNew_189 rfl)) (os_l (so_iflt d_Mo_isNew_190 (by decide)))) (os_n (os_l (so_aload_n d_Mo_isNew_193 rfl)) (os_n (os_l (so_get (C := R_Mo) (T := F_Mo) (N := 87) (j := 25) in_Mo rfl (by decide) mw_1819 d_Mo_isNew_194)) (os_l (so_iload_n d_Mo_isNew_197 rfl)))))) (os_n (os_n (os_n (os_l (so_iaload d_Mo_isNew_198)) (os_l (so_iload d_Mo_isNew_199))) (os_n (os_l (so_iadd d_Mo_isNew_201)) (os_n (os_l (so_aload_n d_Mo_isNew_202 rfl)) (os_l (so_get (C := R_Mo) (T := F_Mo) (N := 87) (j := 24) in_Mo rfl (by decide) mw_1818 d_Mo_isNew_203))))) (os_n (os_n (os_l (so_iload_n d_Mo_isNew_206 rfl)) (os_n (os_l (so_iaload d_Mo_isNew_207)) (os_l (so_callS (iv := mi_Mo_room) rfl mw_2096 mw_2097 mw_18 mw_2098 ⟨by decide +kernel, by decide +kernel, by decide +kernel⟩ (by decide) d_Mo_isNew_208)))) (os_n (os_l (so_icge d_Mo_isNew_211 (by decide))) (os_n (os_l (so_iload_n d_Mo_isNew_214 rfl)) (os_l (so_iflt d_Mo_isNew_215 (by decide))))))))) (os_n (os_n (os_n (os_n (os_n (os_l (so_aload_n d_Mo_isNew_218 rfl)) (os_l (so_get (C := R_Mo) (T := F_Mo) (N := 87) (j := 25) in_Mo rfl (by decide) mw_1819 d_Mo_isNew_219))) (os_n (os_l (so_iload_n d_Mo_isNew_222 rfl)) (os_n (os_l (so_iaload d_Mo_isNew_223)) (os_l (so_iload d_Mo_isNew_224))))) (os_n (os_n (os_l (so_iadd d_Mo_isNew_226)) (os_l (so_aload_n d_Mo_isNew_227 rfl))) (os_n (os_l (so_get (C := R_Mo) (T := F_Mo) (N := 87) (j := 24) in_Mo rfl (by decide) mw_1818 d_Mo_isNew_228)) (os_n (os_l (so_iload_n d_Mo_isNew_231 rfl)) (os_l (so_iaload d_Mo_isNew_232)))))) (os_n (os_n (os_n (os_l (so_callS (iv := mi_Mo_room) rfl mw_2096 mw_2097 mw_18 mw_2098 ⟨by decide +kernel, by decide +kernel, by decide +kernel⟩ (by decide) d_Mo_isNew_233)) (os_l (so_iclt d_Mo_isNew_236 (by decide)))) (os_n (os_l (so_iconst d_Mo_isNew_239 (by decide))) (os_n (os_l (so_zreturn rfl d_Mo_isNew_240)) (os_l (so_iload_n d_Mo_isNew_241 rfl))))) (os_n (os_n (os_l (so_iflt d_Mo_isNew_242 (by decide))) (os_n (os_l (so_aload_n d_Mo_isNew_245 rfl)) (os_l (so_get (C := R_Mo) (T := F_Mo) (N := 87) (j := 25) in_Mo rfl (by decide) mw_1819 d_Mo_isNew_246)))) (os_n (os_l (so_iload_n d_Mo_isNew_249 rfl)) (os_n (os_l (so_dup2 d_Mo_isNew_250)) (os_l (so_iaload d_Mo_isNew_251))))))) (os_n (os_n (os_n (os_n (os_l (so_iconst d_Mo_isNew_252 (by decide))) (os_l (so_iadd d_Mo_isNew_253))) (os_n (os_l (so_iastore d_Mo_isNew_254)) (os_n (os_l (so_iload_n d_Mo_isNew_255 rfl)) (os_l (so_iflt d_Mo_isNew_256 (by decide)))))) (os_n (os_n (os_l (so_aload_n d_Mo_isNew_259 rfl)) (os_l (so_get (C := R_Mo) (T := F_Mo) (N := 87) (j := 25) in_Mo rfl (by decide) mw_1819 d_Mo_isNew_260))) (os_n (os_l (so_iload_n d_Mo_isNew_263 rfl)) (os_n (os_l (so_dup2 d_Mo_isNew_264)) (os_l (so_iaload d_Mo_isNew_265)))))) (os_n (os_n (os_n (os_l (so_iconst d_Mo_isNew_266 (by decide))) (os_l (so_iadd d_Mo_isNew_267))) (os_n (os_l (so_iastore d_Mo_isNew_268)) (os_n (os_l (so_aload_n d_Mo_isNew_269 rfl)) (os_l (so_dup d_Mo_isNew_270))))) (os_n (os_n (os_l (so_get (C := R_Mo) (T := F_Mo) (N := 87) (j := 86) in_Mo rfl (by decide) mw_1880 d_Mo_isNew_271)) (os_n (os_l (so_iconst d_Mo_isNew_274 (by decide))) (os_l (so_iadd d_Mo_isNew_275)))) (os_n (os_l (so_putI (C := R_Mo) (T := F_Mo) (N := 87) (j := 86) in_Mo t_Mo_ok n_Mo rfl (by decide) mw_1880 rfl (by decide +kernel) d_Mo_isNew_276)) (os_n (os_l (so_iconst d_Mo_isNew_279 (by decide))) (os_l (so_zreturn rfl d_Mo_isNew_280))))))))))
abbrev t_Mo_readPlant_154 : List UInt8 := 172 :: []
abbrev t_Mo_readPlant_151 : List UInt8 := 180 :: 1 :: 22 :: t_Mo_readPlant_154
abbrev t_Mo_readPlant_150 : List UInt8 := 42 :: t_Mo_readPlant_151
abbrev t_Mo_readPlant_147 : List UInt8 := 167 :: 255 :: 235 :: t_Mo_readPlant_150
abbrev t_Mo_readPlant_144 : List UInt8 := 132 :: 1 :: 1 :: t_Mo_readPlant_147
abbrev t_Mo_readPlant_141 : List UInt8 := 182 :: 1 :: 35 :: t_Mo_readPlant_144
abbrev t_Mo_readPlant_140 : List UInt8 := 27 :: t_Mo_readPlant_141
abbrev t_Mo_readPlant_139 : List UInt8 := 42 :: t_Mo_readPlant_140
abbrev t_Mo_readPlant_138 : List UInt8 := 79 :: t_Mo_readPlant_139
abbrev t_Mo_readPlant_137 : List UInt8 := 3 :: t_Mo_readPlant_138
abbrev t_Mo_readPlant_136 : List UInt8 := 27 :: t_Mo_readPlant_137
abbrev t_Mo_readPlant_133 : List UInt8 := 180 :: 0 :: 58 :: t_Mo_readPlant_136
abbrev t_Mo_readPlant_132 : List UInt8 := 42 :: t_Mo_readPlant_133
abbrev t_Mo_readPlant_129 : List UInt8 := 162 :: 0 :: 21 :: t_Mo_readPlant_132
abbrev t_Mo_readPlant_127 : List UInt8 := 16 :: 44 :: t_Mo_readPlant_129
abbrev t_Mo_readPlant_126 : List UInt8 := 27 :: t_Mo_readPlant_127
abbrev t_Mo_readPlant_125 : List UInt8 := 60 :: t_Mo_readPlant_126
abbrev t_Mo_readPlant_124 : List UInt8 := 3 :: t_Mo_readPlant_125
abbrev t_Mo_readPlant_121 : List UInt8 := 167 :: 255 :: 225 :: t_Mo_readPlant_124
abbrev t_Mo_readPlant_118 : List UInt8 := 181 :: 0 :: 234 :: t_Mo_readPlant_121
abbrev t_Mo_readPlant_117 : List UInt8 := 96 :: t_Mo_readPlant_118
abbrev t_Mo_readPlant_116 : List UInt8 := 4 :: t_Mo_readPlant_117
abbrev t_Mo_readPlant_113 : List UInt8 := 180 :: 0 :: 234 :: t_Mo_readPlant_116
abbrev t_Mo_readPlant_112 : List UInt8 := 89 :: t_Mo_readPlant_113
abbrev t_Mo_readPlant_111 : List UInt8 := 42 :: t_Mo_readPlant_112
abbrev t_Mo_readPlant_108 : List UInt8 := 182 :: 1 :: 31 :: t_Mo_readPlant_111
abbrev t_Mo_readPlant_107 : List UInt8 := 27 :: t_Mo_readPlant_108
abbrev t_Mo_readPlant_106 : List UInt8 := 42 :: t_Mo_readPlant_107
abbrev t_Mo_readPlant_105 : List UInt8 := 60 :: t_Mo_readPlant_106
abbrev t_Mo_readPlant_102 : List UInt8 := 182 :: 1 :: 16 :: t_Mo_readPlant_105
abbrev t_Mo_readPlant_101 : List UInt8 := 42 :: t_Mo_readPlant_102
abbrev t_Mo_readPlant_98 : List UInt8 := 162 :: 0 :: 26 :: t_Mo_readPlant_101
abbrev t_Mo_readPlant_95 : List UInt8 := 180 :: 0 :: 215 :: t_Mo_readPlant_98
abbrev t_Mo_readPlant_94 : List UInt8 := 42 :: t_Mo_readPlant_95
abbrev t_Mo_readPlant_91 : List UInt8 := 180 :: 0 :: 234 :: t_Mo_readPlant_94
abbrev t_Mo_readPlant_90 : List UInt8 := 42 :: t_Mo_readPlant_91
abbrev t_Mo_readPlant_87 : List UInt8 := 181 :: 0 :: 234 :: t_Mo_readPlant_90
abbrev t_Mo_readPlant_86 : List UInt8 := 3 :: t_Mo_readPlant_87
abbrev t_Mo_readPlant_85 : List UInt8 := 42 :: t_Mo_readPlant_86
abbrev t_Mo_readPlant_82 : List UInt8 := 181 :: 0 :: 162 :: t_Mo_readPlant_85
abbrev t_Mo_readPlant_81 : List UInt8 := 7 :: t_Mo_readPlant_82
abbrev t_Mo_readPlant_80 : List UInt8 := 42 :: t_Mo_readPlant_81
abbrev t_Mo_readPlant_77 : List UInt8 := 181 :: 1 :: 28 :: t_Mo_readPlant_80
abbrev t_Mo_readPlant_76 : List UInt8 := 3 :: t_Mo_readPlant_77
abbrev t_Mo_readPlant_75 : List UInt8 := 42 :: t_Mo_readPlant_76
abbrev t_Mo_readPlant_72 : List UInt8 := 181 :: 1 :: 25 :: t_Mo_readPlant_75
abbrev t_Mo_readPlant_71 : List UInt8 := 3 :: t_Mo_readPlant_72
abbrev t_Mo_readPlant_70 : List UInt8 := 42 :: t_Mo_readPlant_71
abbrev t_Mo_readPlant_67 : List UInt8 := 181 :: 1 :: 22 :: t_Mo_readPlant_70
abbrev t_Mo_readPlant_66 : List UInt8 := 3 :: t_Mo_readPlant_67
abbrev t_Mo_readPlant_65 : List UInt8 := 42 :: t_Mo_readPlant_66
abbrev t_Mo_readPlant_62 : List UInt8 := 167 :: 255 :: 209 :: t_Mo_readPlant_65
abbrev t_Mo_readPlant_59 : List UInt8 := 181 :: 0 :: 234 :: t_Mo_readPlant_62
abbrev t_Mo_readPlant_58 : List UInt8 := 96 :: t_Mo_readPlant_59
abbrev t_Mo_readPlant_57 : List UInt8 := 4 :: t_Mo_readPlant_58
abbrev t_Mo_readPlant_54 : List UInt8 := 180 :: 0 :: 234 :: t_Mo_readPlant_57
abbrev t_Mo_readPlant_53 : List UInt8 := 89 :: t_Mo_readPlant_54
abbrev t_Mo_readPlant_52 : List UInt8 := 42 :: t_Mo_readPlant_53
abbrev t_Mo_readPlant_51 : List UInt8 := 172 :: t_Mo_readPlant_52
abbrev t_Mo_readPlant_50 : List UInt8 := 100 :: t_Mo_readPlant_51
abbrev t_Mo_readPlant_47 : List UInt8 := 180 :: 0 :: 234 :: t_Mo_readPlant_50
abbrev t_Mo_readPlant_46 : List UInt8 := 42 :: t_Mo_readPlant_47
abbrev t_Mo_readPlant_44 : List UInt8 := 16 :: 253 :: t_Mo_readPlant_46
abbrev t_Mo_readPlant_41 : List UInt8 := 154 :: 0 :: 11 :: t_Mo_readPlant_44
abbrev t_Mo_readPlant_38 : List UInt8 := 182 :: 1 :: 19 :: t_Mo_readPlant_41
abbrev t_Mo_readPlant_37 : List UInt8 := 27 :: t_Mo_readPlant_38
abbrev t_Mo_readPlant_36 : List UInt8 := 42 :: t_Mo_readPlant_37
abbrev t_Mo_readPlant_33 : List UInt8 := 159 :: 0 :: 11 :: t_Mo_readPlant_36
abbrev t_Mo_readPlant_32 : List UInt8 := 2 :: t_Mo_readPlant_33
abbrev t_Mo_readPlant_31 : List UInt8 := 27 :: t_Mo_readPlant_32
abbrev t_Mo_readPlant_30 : List UInt8 := 60 :: t_Mo_readPlant_31
abbrev t_Mo_readPlant_27 : List UInt8 := 182 :: 1 :: 16 :: t_Mo_readPlant_30
abbrev t_Mo_readPlant_26 : List UInt8 := 42 :: t_Mo_readPlant_27
abbrev t_Mo_readPlant_23 : List UInt8 := 162 :: 0 :: 42 :: t_Mo_readPlant_26
abbrev t_Mo_readPlant_20 : List UInt8 := 180 :: 0 :: 215 :: t_Mo_readPlant_23
abbrev t_Mo_readPlant_19 : List UInt8 := 42 :: t_Mo_readPlant_20
abbrev t_Mo_readPlant_16 : List UInt8 := 180 :: 0 :: 234 :: t_Mo_readPlant_19
abbrev t_Mo_readPlant_15 : List UInt8 := 42 :: t_Mo_readPlant_16
abbrev t_Mo_readPlant_12 : List UInt8 := 181 :: 1 :: 9 :: t_Mo_readPlant_15
abbrev t_Mo_readPlant_11 : List UInt8 := 3 :: t_Mo_readPlant_12
abbrev t_Mo_readPlant_10 : List UInt8 := 42 :: t_Mo_readPlant_11
abbrev t_Mo_readPlant_7 : List UInt8 := 181 :: 1 :: 5 :: t_Mo_readPlant_10
abbrev t_Mo_readPlant_6 : List UInt8 := 3 :: t_Mo_readPlant_7
abbrev t_Mo_readPlant_5 : List UInt8 := 42 :: t_Mo_readPlant_6
abbrev t_Mo_readPlant_2 : List UInt8 := 181 :: 0 :: 234 :: t_Mo_readPlant_5
abbrev t_Mo_readPlant_1 : List UInt8 := 3 :: t_Mo_readPlant_2
abbrev t_Mo_readPlant_0 : List UInt8 := 42 :: t_Mo_readPlant_1
theorem a_Mo_readPlant_0 : dk_at b_Mo_readPlant 0 t_Mo_readPlant_0 := dk_start (by decide +kernel)
theorem a_Mo_readPlant_1 : dk_at b_Mo_readPlant 1 t_Mo_readPlant_1 := dk_go 1 a_Mo_readPlant_0 rfl
theorem a_Mo_readPlant_2 : dk_at b_Mo_readPlant 2 t_Mo_readPlant_2 := dk_go 1 a_Mo_readPlant_1 rfl
theorem a_Mo_readPlant_5 : dk_at b_Mo_readPlant 5 t_Mo_readPlant_5 := dk_go 3 a_Mo_readPlant_2 rfl
theorem a_Mo_readPlant_6 : dk_at b_Mo_readPlant 6 t_Mo_readPlant_6 := dk_go 1 a_Mo_readPlant_5 rfl
theorem a_Mo_readPlant_7 : dk_at b_Mo_readPlant 7 t_Mo_readPlant_7 := dk_go 1 a_Mo_readPlant_6 rfl
theorem a_Mo_readPlant_10 : dk_at b_Mo_readPlant 10 t_Mo_readPlant_10 := dk_go 3 a_Mo_readPlant_7 rfl
theorem a_Mo_readPlant_11 : dk_at b_Mo_readPlant 11 t_Mo_readPlant_11 := dk_go 1 a_Mo_readPlant_10 rfl
theorem a_Mo_readPlant_12 : dk_at b_Mo_readPlant 12 t_Mo_readPlant_12 := dk_go 1 a_Mo_readPlant_11 rfl
theorem a_Mo_readPlant_15 : dk_at b_Mo_readPlant 15 t_Mo_readPlant_15 := dk_go 3 a_Mo_readPlant_12 rfl
theorem a_Mo_readPlant_16 : dk_at b_Mo_readPlant 16 t_Mo_readPlant_16 := dk_go 1 a_Mo_readPlant_15 rfl
theorem a_Mo_readPlant_19 : dk_at b_Mo_readPlant 19 t_Mo_readPlant_19 := dk_go 3 a_Mo_readPlant_16 rfl
theorem a_Mo_readPlant_20 : dk_at b_Mo_readPlant 20 t_Mo_readPlant_20 := dk_go 1 a_Mo_readPlant_19 rfl
theorem a_Mo_readPlant_23 : dk_at b_Mo_readPlant 23 t_Mo_readPlant_23 := dk_go 3 a_Mo_readPlant_20 rfl
theorem a_Mo_readPlant_26 : dk_at b_Mo_readPlant 26 t_Mo_readPlant_26 := dk_go 3 a_Mo_readPlant_23 rfl
theorem a_Mo_readPlant_27 : dk_at b_Mo_readPlant 27 t_Mo_readPlant_27 := dk_go 1 a_Mo_readPlant_26 rfl
theorem a_Mo_readPlant_30 : dk_at b_Mo_readPlant 30 t_Mo_readPlant_30 := dk_go 3 a_Mo_readPlant_27 rfl
theorem a_Mo_readPlant_31 : dk_at b_Mo_readPlant 31 t_Mo_readPlant_31 := dk_go 1 a_Mo_readPlant_30 rfl
theorem a_Mo_readPlant_32 : dk_at b_Mo_readPlant 32 t_Mo_readPlant_32 := dk_go 1 a_Mo_readPlant_31 rfl
theorem a_Mo_readPlant_33 : dk_at b_Mo_readPlant 33 t_Mo_readPlant_33 := dk_go 1 a_Mo_readPlant_32 rfl
theorem a_Mo_readPlant_36 : dk_at b_Mo_readPlant 36 t_Mo_readPlant_36 := dk_go 3 a_Mo_readPlant_33 rfl
theorem a_Mo_readPlant_37 : dk_at b_Mo_readPlant 37 t_Mo_readPlant_37 := dk_go 1 a_Mo_readPlant_36 rfl
theorem a_Mo_readPlant_38 : dk_at b_Mo_readPlant 38 t_Mo_readPlant_38 := dk_go 1 a_Mo_readPlant_37 rfl
theorem a_Mo_readPlant_41 : dk_at b_Mo_readPlant 41 t_Mo_readPlant_41 := dk_go 3 a_Mo_readPlant_38 rfl
theorem a_Mo_readPlant_44 : dk_at b_Mo_readPlant 44 t_Mo_readPlant_44 := dk_go 3 a_Mo_readPlant_41 rfl
theorem a_Mo_readPlant_46 : dk_at b_Mo_readPlant 46 t_Mo_readPlant_46 := dk_go 2 a_Mo_readPlant_44 rfl
theorem a_Mo_readPlant_47 : dk_at b_Mo_readPlant 47 t_Mo_readPlant_47 := dk_go 1 a_Mo_readPlant_46 rfl
theorem a_Mo_readPlant_50 : dk_at b_Mo_readPlant 50 t_Mo_readPlant_50 := dk_go 3 a_Mo_readPlant_47 rfl
theorem a_Mo_readPlant_51 : dk_at b_Mo_readPlant 51 t_Mo_readPlant_51 := dk_go 1 a_Mo_readPlant_50 rfl
theorem a_Mo_readPlant_52 : dk_at b_Mo_readPlant 52 t_Mo_readPlant_52 := dk_go 1 a_Mo_readPlant_51 rfl
theorem a_Mo_readPlant_53 : dk_at b_Mo_readPlant 53 t_Mo_readPlant_53 := dk_go 1 a_Mo_readPlant_52 rfl
theorem a_Mo_readPlant_54 : dk_at b_Mo_readPlant 54 t_Mo_readPlant_54 := dk_go 1 a_Mo_readPlant_53 rfl
theorem a_Mo_readPlant_57 : dk_at b_Mo_readPlant 57 t_Mo_readPlant_57 := dk_go 3 a_Mo_readPlant_54 rfl
theorem a_Mo_readPlant_58 : dk_at b_Mo_readPlant 58 t_Mo_readPlant_58 := dk_go 1 a_Mo_readPlant_57 rfl
theorem a_Mo_readPlant_59 : dk_at b_Mo_readPlant 59 t_Mo_readPlant_59 := dk_go 1 a_Mo_readPlant_58 rfl
theorem a_Mo_readPlant_62 : dk_at b_Mo_readPlant 62 t_Mo_readPlant_62 := dk_go 3 a_Mo_readPlant_59 rfl
theorem a_Mo_readPlant_65 : dk_at b_Mo_readPlant 65 t_Mo_readPlant_65 := dk_go 3 a_Mo_readPlant_62 rfl
theorem a_Mo_readPlant_66 : dk_at b_Mo_readPlant 66 t_Mo_readPlant_66 := dk_go 1 a_Mo_readPlant_65 rfl
theorem a_Mo_readPlant_67 : dk_at b_Mo_readPlant 67 t_Mo_readPlant_67 := dk_go 1 a_Mo_readPlant_66 rfl
theorem a_Mo_readPlant_70 : dk_at b_Mo_readPlant 70 t_Mo_readPlant_70 := dk_go 3 a_Mo_readPlant_67 rfl
theorem a_Mo_readPlant_71 : dk_at b_Mo_readPlant 71 t_Mo_readPlant_71 := dk_go 1 a_Mo_readPlant_70 rfl
theorem a_Mo_readPlant_72 : dk_at b_Mo_readPlant 72 t_Mo_readPlant_72 := dk_go 1 a_Mo_readPlant_71 rfl
theorem a_Mo_readPlant_75 : dk_at b_Mo_readPlant 75 t_Mo_readPlant_75 := dk_go 3 a_Mo_readPlant_72 rfl
theorem a_Mo_readPlant_76 : dk_at b_Mo_readPlant 76 t_Mo_readPlant_76 := dk_go 1 a_Mo_readPlant_75 rfl
theorem a_Mo_readPlant_77 : dk_at b_Mo_readPlant 77 t_Mo_readPlant_77 := dk_go 1 a_Mo_readPlant_76 rfl
theorem a_Mo_readPlant_80 : dk_at b_Mo_readPlant 80 t_Mo_readPlant_80 := dk_go 3 a_Mo_readPlant_77 rfl
theorem a_Mo_readPlant_81 : dk_at b_Mo_readPlant 81 t_Mo_readPlant_81 := dk_go 1 a_Mo_readPlant_80 rfl
theorem a_Mo_readPlant_82 : dk_at b_Mo_readPlant 82 t_Mo_readPlant_82 := dk_go 1 a_Mo_readPlant_81 rfl
theorem a_Mo_readPlant_85 : dk_at b_Mo_readPlant 85 t_Mo_readPlant_85 := dk_go 3 a_Mo_readPlant_82 rfl
theorem a_Mo_readPlant_86 : dk_at b_Mo_readPlant 86 t_Mo_readPlant_86 := dk_go 1 a_Mo_readPlant_85 rfl
theorem a_Mo_readPlant_87 : dk_at b_Mo_readPlant 87 t_Mo_readPlant_87 := dk_go 1 a_Mo_readPlant_86 rfl
theorem a_Mo_readPlant_90 : dk_at b_Mo_readPlant 90 t_Mo_readPlant_90 := dk_go 3 a_Mo_readPlant_87 rfl
theorem a_Mo_readPlant_91 : dk_at b_Mo_readPlant 91 t_Mo_readPlant_91 := dk_go 1 a_Mo_readPlant_90 rfl
theorem a_Mo_readPlant_94 : dk_at b_Mo_readPlant 94 t_Mo_readPlant_94 := dk_go 3 a_Mo_readPlant_91 rfl
theorem a_Mo_readPlant_95 : dk_at b_Mo_readPlant 95 t_Mo_readPlant_95 := dk_go 1 a_Mo_readPlant_94 rfl
theorem a_Mo_readPlant_98 : dk_at b_Mo_readPlant 98 t_Mo_readPlant_98 := dk_go 3 a_Mo_readPlant_95 rfl
theorem a_Mo_readPlant_101 : dk_at b_Mo_readPlant 101 t_Mo_readPlant_101 := dk_go 3 a_Mo_readPlant_98 rfl
theorem a_Mo_readPlant_102 : dk_at b_Mo_readPlant 102 t_Mo_readPlant_102 := dk_go 1 a_Mo_readPlant_101 rfl
theorem a_Mo_readPlant_105 : dk_at b_Mo_readPlant 105 t_Mo_readPlant_105 := dk_go 3 a_Mo_readPlant_102 rfl
theorem a_Mo_readPlant_106 : dk_at b_Mo_readPlant 106 t_Mo_readPlant_106 := dk_go 1 a_Mo_readPlant_105 rfl
theorem a_Mo_readPlant_107 : dk_at b_Mo_readPlant 107 t_Mo_readPlant_107 := dk_go 1 a_Mo_readPlant_106 rfl
theorem a_Mo_readPlant_108 : dk_at b_Mo_readPlant 108 t_Mo_readPlant_108 := dk_go 1 a_Mo_readPlant_107 rfl
theorem a_Mo_readPlant_111 : dk_at b_Mo_readPlant 111 t_Mo_readPlant_111 := dk_go 3 a_Mo_readPlant_108 rfl
theorem a_Mo_readPlant_112 : dk_at b_Mo_readPlant 112 t_Mo_readPlant_112 := dk_go 1 a_Mo_readPlant_111 rfl
theorem a_Mo_readPlant_113 : dk_at b_Mo_readPlant 113 t_Mo_readPlant_113 := dk_go 1 a_Mo_readPlant_112 rfl
theorem a_Mo_readPlant_116 : dk_at b_Mo_readPlant 116 t_Mo_readPlant_116 := dk_go 3 a_Mo_readPlant_113 rfl
theorem a_Mo_readPlant_117 : dk_at b_Mo_readPlant 117 t_Mo_readPlant_117 := dk_go 1 a_Mo_readPlant_116 rfl
theorem a_Mo_readPlant_118 : dk_at b_Mo_readPlant 118 t_Mo_readPlant_118 := dk_go 1 a_Mo_readPlant_117 rfl
theorem a_Mo_readPlant_121 : dk_at b_Mo_readPlant 121 t_Mo_readPlant_121 := dk_go 3 a_Mo_readPlant_118 rfl
theorem a_Mo_readPlant_124 : dk_at b_Mo_readPlant 124 t_Mo_readPlant_124 := dk_go 3 a_Mo_readPlant_121 rfl
theorem a_Mo_readPlant_125 : dk_at b_Mo_readPlant 125 t_Mo_readPlant_125 := dk_go 1 a_Mo_readPlant_124 rfl
theorem a_Mo_readPlant_126 : dk_at b_Mo_readPlant 126 t_Mo_readPlant_126 := dk_go 1 a_Mo_readPlant_125 rfl
theorem a_Mo_readPlant_127 : dk_at b_Mo_readPlant 127 t_Mo_readPlant_127 := dk_go 1 a_Mo_readPlant_126 rfl
theorem a_Mo_readPlant_129 : dk_at b_Mo_readPlant 129 t_Mo_readPlant_129 := dk_go 2 a_Mo_readPlant_127 rfl
theorem a_Mo_readPlant_132 : dk_at b_Mo_readPlant 132 t_Mo_readPlant_132 := dk_go 3 a_Mo_readPlant_129 rfl
theorem a_Mo_readPlant_133 : dk_at b_Mo_readPlant 133 t_Mo_readPlant_133 := dk_go 1 a_Mo_readPlant_132 rfl
theorem a_Mo_readPlant_136 : dk_at b_Mo_readPlant 136 t_Mo_readPlant_136 := dk_go 3 a_Mo_readPlant_133 rfl
theorem a_Mo_readPlant_137 : dk_at b_Mo_readPlant 137 t_Mo_readPlant_137 := dk_go 1 a_Mo_readPlant_136 rfl
theorem a_Mo_readPlant_138 : dk_at b_Mo_readPlant 138 t_Mo_readPlant_138 := dk_go 1 a_Mo_readPlant_137 rfl
theorem a_Mo_readPlant_139 : dk_at b_Mo_readPlant 139 t_Mo_readPlant_139 := dk_go 1 a_Mo_readPlant_138 rfl
theorem a_Mo_readPlant_140 : dk_at b_Mo_readPlant 140 t_Mo_readPlant_140 := dk_go 1 a_Mo_readPlant_139 rfl
theorem a_Mo_readPlant_141 : dk_at b_Mo_readPlant 141 t_Mo_readPlant_141 := dk_go 1 a_Mo_readPlant_140 rfl
theorem a_Mo_readPlant_144 : dk_at b_Mo_readPlant 144 t_Mo_readPlant_144 := dk_go 3 a_Mo_readPlant_141 rfl
theorem a_Mo_readPlant_147 : dk_at b_Mo_readPlant 147 t_Mo_readPlant_147 := dk_go 3 a_Mo_readPlant_144 rfl
theorem a_Mo_readPlant_150 : dk_at b_Mo_readPlant 150 t_Mo_readPlant_150 := dk_go 3 a_Mo_readPlant_147 rfl
theorem a_Mo_readPlant_151 : dk_at b_Mo_readPlant 151 t_Mo_readPlant_151 := dk_go 1 a_Mo_readPlant_150 rfl
theorem a_Mo_readPlant_154 : dk_at b_Mo_readPlant 154 t_Mo_readPlant_154 := dk_go 3 a_Mo_readPlant_151 rfl
theorem d_Mo_readPlant_0 : decode b_Mo_readPlant 0 = .ok (.aload_n 0, 1) := dk_0 a_Mo_readPlant_0 (dko_42 _)
theorem d_Mo_readPlant_1 : decode b_Mo_readPlant 1 = .ok (.iconst 0, 1) := dk_0 a_Mo_readPlant_1 (dko_3 _)
theorem d_Mo_readPlant_2 : decode b_Mo_readPlant 2 = .ok (.putfield 234, 3) := dk_U2 a_Mo_readPlant_2 (dko_181 _) rfl
theorem d_Mo_readPlant_5 : decode b_Mo_readPlant 5 = .ok (.aload_n 0, 1) := dk_0 a_Mo_readPlant_5 (dko_42 _)
theorem d_Mo_readPlant_6 : decode b_Mo_readPlant 6 = .ok (.iconst 0, 1) := dk_0 a_Mo_readPlant_6 (dko_3 _)
theorem d_Mo_readPlant_7 : decode b_Mo_readPlant 7 = .ok (.putfield 261, 3) := dk_U2 a_Mo_readPlant_7 (dko_181 _) rfl
theorem d_Mo_readPlant_10 : decode b_Mo_readPlant 10 = .ok (.aload_n 0, 1) := dk_0 a_Mo_readPlant_10 (dko_42 _)
theorem d_Mo_readPlant_11 : decode b_Mo_readPlant 11 = .ok (.iconst 0, 1) := dk_0 a_Mo_readPlant_11 (dko_3 _)
theorem d_Mo_readPlant_12 : decode b_Mo_readPlant 12 = .ok (.putfield 265, 3) := dk_U2 a_Mo_readPlant_12 (dko_181 _) rfl
theorem d_Mo_readPlant_15 : decode b_Mo_readPlant 15 = .ok (.aload_n 0, 1) := dk_0 a_Mo_readPlant_15 (dko_42 _)
theorem d_Mo_readPlant_16 : decode b_Mo_readPlant 16 = .ok (.getfield 234, 3) := dk_U2 a_Mo_readPlant_16 (dko_180 _) rfl
theorem d_Mo_readPlant_19 : decode b_Mo_readPlant 19 = .ok (.aload_n 0, 1) := dk_0 a_Mo_readPlant_19 (dko_42 _)
theorem d_Mo_readPlant_20 : decode b_Mo_readPlant 20 = .ok (.getfield 215, 3) := dk_U2 a_Mo_readPlant_20 (dko_180 _) rfl
theorem d_Mo_readPlant_23 : decode b_Mo_readPlant 23 = .ok (.if_icmp .ge 42, 3) := dk_S2 a_Mo_readPlant_23 (dko_162 _) (by decide +kernel)
theorem d_Mo_readPlant_26 : decode b_Mo_readPlant 26 = .ok (.aload_n 0, 1) := dk_0 a_Mo_readPlant_26 (dko_42 _)
theorem d_Mo_readPlant_27 : decode b_Mo_readPlant 27 = .ok (.invokevirtual 272, 3) := dk_U2 a_Mo_readPlant_27 (dko_182 _) rfl
theorem d_Mo_readPlant_30 : decode b_Mo_readPlant 30 = .ok (.istore_n 1, 1) := dk_0 a_Mo_readPlant_30 (dko_60 _)
theorem d_Mo_readPlant_31 : decode b_Mo_readPlant 31 = .ok (.iload_n 1, 1) := dk_0 a_Mo_readPlant_31 (dko_27 _)
theorem d_Mo_readPlant_32 : decode b_Mo_readPlant 32 = .ok (.iconst (-1), 1) := dk_0 a_Mo_readPlant_32 (dko_2 _)
theorem d_Mo_readPlant_33 : decode b_Mo_readPlant 33 = .ok (.if_icmp .eq 11, 3) := dk_S2 a_Mo_readPlant_33 (dko_159 _) (by decide +kernel)
theorem d_Mo_readPlant_36 : decode b_Mo_readPlant 36 = .ok (.aload_n 0, 1) := dk_0 a_Mo_readPlant_36 (dko_42 _)
theorem d_Mo_readPlant_37 : decode b_Mo_readPlant 37 = .ok (.iload_n 1, 1) := dk_0 a_Mo_readPlant_37 (dko_27 _)
theorem d_Mo_readPlant_38 : decode b_Mo_readPlant 38 = .ok (.invokevirtual 275, 3) := dk_U2 a_Mo_readPlant_38 (dko_182 _) rfl
theorem d_Mo_readPlant_41 : decode b_Mo_readPlant 41 = .ok (.ifCond .ne 11, 3) := dk_S2 a_Mo_readPlant_41 (dko_154 _) (by decide +kernel)
theorem d_Mo_readPlant_44 : decode b_Mo_readPlant 44 = .ok (.bipush (-3), 2) := dk_S1 a_Mo_readPlant_44 (dko_16 _) (by decide +kernel)
theorem d_Mo_readPlant_46 : decode b_Mo_readPlant 46 = .ok (.aload_n 0, 1) := dk_0 a_Mo_readPlant_46 (dko_42 _)
theorem d_Mo_readPlant_47 : decode b_Mo_readPlant 47 = .ok (.getfield 234, 3) := dk_U2 a_Mo_readPlant_47 (dko_180 _) rfl
theorem d_Mo_readPlant_50 : decode b_Mo_readPlant 50 = .ok (.isub, 1) := dk_0 a_Mo_readPlant_50 (dko_100 _)
theorem d_Mo_readPlant_51 : decode b_Mo_readPlant 51 = .ok (.ireturn, 1) := dk_0 a_Mo_readPlant_51 (dko_172 _)
theorem d_Mo_readPlant_52 : decode b_Mo_readPlant 52 = .ok (.aload_n 0, 1) := dk_0 a_Mo_readPlant_52 (dko_42 _)
theorem d_Mo_readPlant_53 : decode b_Mo_readPlant 53 = .ok (.dup, 1) := dk_0 a_Mo_readPlant_53 (dko_89 _)
theorem d_Mo_readPlant_54 : decode b_Mo_readPlant 54 = .ok (.getfield 234, 3) := dk_U2 a_Mo_readPlant_54 (dko_180 _) rfl
theorem d_Mo_readPlant_57 : decode b_Mo_readPlant 57 = .ok (.iconst 1, 1) := dk_0 a_Mo_readPlant_57 (dko_4 _)
theorem d_Mo_readPlant_58 : decode b_Mo_readPlant 58 = .ok (.iadd, 1) := dk_0 a_Mo_readPlant_58 (dko_96 _)
theorem d_Mo_readPlant_59 : decode b_Mo_readPlant 59 = .ok (.putfield 234, 3) := dk_U2 a_Mo_readPlant_59 (dko_181 _) rfl
theorem d_Mo_readPlant_62 : decode b_Mo_readPlant 62 = .ok (.goto (-47), 3) := dk_S2 a_Mo_readPlant_62 (dko_167 _) (by decide +kernel)
theorem d_Mo_readPlant_65 : decode b_Mo_readPlant 65 = .ok (.aload_n 0, 1) := dk_0 a_Mo_readPlant_65 (dko_42 _)
theorem d_Mo_readPlant_66 : decode b_Mo_readPlant 66 = .ok (.iconst 0, 1) := dk_0 a_Mo_readPlant_66 (dko_3 _)
theorem d_Mo_readPlant_67 : decode b_Mo_readPlant 67 = .ok (.putfield 278, 3) := dk_U2 a_Mo_readPlant_67 (dko_181 _) rfl
theorem d_Mo_readPlant_70 : decode b_Mo_readPlant 70 = .ok (.aload_n 0, 1) := dk_0 a_Mo_readPlant_70 (dko_42 _)
theorem d_Mo_readPlant_71 : decode b_Mo_readPlant 71 = .ok (.iconst 0, 1) := dk_0 a_Mo_readPlant_71 (dko_3 _)
theorem d_Mo_readPlant_72 : decode b_Mo_readPlant 72 = .ok (.putfield 281, 3) := dk_U2 a_Mo_readPlant_72 (dko_181 _) rfl
theorem d_Mo_readPlant_75 : decode b_Mo_readPlant 75 = .ok (.aload_n 0, 1) := dk_0 a_Mo_readPlant_75 (dko_42 _)
theorem d_Mo_readPlant_76 : decode b_Mo_readPlant 76 = .ok (.iconst 0, 1) := dk_0 a_Mo_readPlant_76 (dko_3 _)
theorem d_Mo_readPlant_77 : decode b_Mo_readPlant 77 = .ok (.putfield 284, 3) := dk_U2 a_Mo_readPlant_77 (dko_181 _) rfl
theorem d_Mo_readPlant_80 : decode b_Mo_readPlant 80 = .ok (.aload_n 0, 1) := dk_0 a_Mo_readPlant_80 (dko_42 _)
theorem d_Mo_readPlant_81 : decode b_Mo_readPlant 81 = .ok (.iconst 4, 1) := dk_0 a_Mo_readPlant_81 (dko_7 _)
theorem d_Mo_readPlant_82 : decode b_Mo_readPlant 82 = .ok (.putfield 162, 3) := dk_U2 a_Mo_readPlant_82 (dko_181 _) rfl
theorem d_Mo_readPlant_85 : decode b_Mo_readPlant 85 = .ok (.aload_n 0, 1) := dk_0 a_Mo_readPlant_85 (dko_42 _)
theorem d_Mo_readPlant_86 : decode b_Mo_readPlant 86 = .ok (.iconst 0, 1) := dk_0 a_Mo_readPlant_86 (dko_3 _)
theorem d_Mo_readPlant_87 : decode b_Mo_readPlant 87 = .ok (.putfield 234, 3) := dk_U2 a_Mo_readPlant_87 (dko_181 _) rfl
theorem d_Mo_readPlant_90 : decode b_Mo_readPlant 90 = .ok (.aload_n 0, 1) := dk_0 a_Mo_readPlant_90 (dko_42 _)
theorem d_Mo_readPlant_91 : decode b_Mo_readPlant 91 = .ok (.getfield 234, 3) := dk_U2 a_Mo_readPlant_91 (dko_180 _) rfl
theorem d_Mo_readPlant_94 : decode b_Mo_readPlant 94 = .ok (.aload_n 0, 1) := dk_0 a_Mo_readPlant_94 (dko_42 _)
theorem d_Mo_readPlant_95 : decode b_Mo_readPlant 95 = .ok (.getfield 215, 3) := dk_U2 a_Mo_readPlant_95 (dko_180 _) rfl
theorem d_Mo_readPlant_98 : decode b_Mo_readPlant 98 = .ok (.if_icmp .ge 26, 3) := dk_S2 a_Mo_readPlant_98 (dko_162 _) (by decide +kernel)
theorem d_Mo_readPlant_101 : decode b_Mo_readPlant 101 = .ok (.aload_n 0, 1) := dk_0 a_Mo_readPlant_101 (dko_42 _)
theorem d_Mo_readPlant_102 : decode b_Mo_readPlant 102 = .ok (.invokevirtual 272, 3) := dk_U2 a_Mo_readPlant_102 (dko_182 _) rfl
theorem d_Mo_readPlant_105 : decode b_Mo_readPlant 105 = .ok (.istore_n 1, 1) := dk_0 a_Mo_readPlant_105 (dko_60 _)
theorem d_Mo_readPlant_106 : decode b_Mo_readPlant 106 = .ok (.aload_n 0, 1) := dk_0 a_Mo_readPlant_106 (dko_42 _)
theorem d_Mo_readPlant_107 : decode b_Mo_readPlant 107 = .ok (.iload_n 1, 1) := dk_0 a_Mo_readPlant_107 (dko_27 _)
theorem d_Mo_readPlant_108 : decode b_Mo_readPlant 108 = .ok (.invokevirtual 287, 3) := dk_U2 a_Mo_readPlant_108 (dko_182 _) rfl
theorem d_Mo_readPlant_111 : decode b_Mo_readPlant 111 = .ok (.aload_n 0, 1) := dk_0 a_Mo_readPlant_111 (dko_42 _)
theorem d_Mo_readPlant_112 : decode b_Mo_readPlant 112 = .ok (.dup, 1) := dk_0 a_Mo_readPlant_112 (dko_89 _)
theorem d_Mo_readPlant_113 : decode b_Mo_readPlant 113 = .ok (.getfield 234, 3) := dk_U2 a_Mo_readPlant_113 (dko_180 _) rfl
theorem d_Mo_readPlant_116 : decode b_Mo_readPlant 116 = .ok (.iconst 1, 1) := dk_0 a_Mo_readPlant_116 (dko_4 _)
theorem d_Mo_readPlant_117 : decode b_Mo_readPlant 117 = .ok (.iadd, 1) := dk_0 a_Mo_readPlant_117 (dko_96 _)
theorem d_Mo_readPlant_118 : decode b_Mo_readPlant 118 = .ok (.putfield 234, 3) := dk_U2 a_Mo_readPlant_118 (dko_181 _) rfl
theorem d_Mo_readPlant_121 : decode b_Mo_readPlant 121 = .ok (.goto (-31), 3) := dk_S2 a_Mo_readPlant_121 (dko_167 _) (by decide +kernel)
theorem d_Mo_readPlant_124 : decode b_Mo_readPlant 124 = .ok (.iconst 0, 1) := dk_0 a_Mo_readPlant_124 (dko_3 _)
theorem d_Mo_readPlant_125 : decode b_Mo_readPlant 125 = .ok (.istore_n 1, 1) := dk_0 a_Mo_readPlant_125 (dko_60 _)
theorem d_Mo_readPlant_126 : decode b_Mo_readPlant 126 = .ok (.iload_n 1, 1) := dk_0 a_Mo_readPlant_126 (dko_27 _)
theorem d_Mo_readPlant_127 : decode b_Mo_readPlant 127 = .ok (.bipush 44, 2) := dk_S1 a_Mo_readPlant_127 (dko_16 _) (by decide +kernel)
theorem d_Mo_readPlant_129 : decode b_Mo_readPlant 129 = .ok (.if_icmp .ge 21, 3) := dk_S2 a_Mo_readPlant_129 (dko_162 _) (by decide +kernel)
theorem d_Mo_readPlant_132 : decode b_Mo_readPlant 132 = .ok (.aload_n 0, 1) := dk_0 a_Mo_readPlant_132 (dko_42 _)
theorem d_Mo_readPlant_133 : decode b_Mo_readPlant 133 = .ok (.getfield 58, 3) := dk_U2 a_Mo_readPlant_133 (dko_180 _) rfl
theorem d_Mo_readPlant_136 : decode b_Mo_readPlant 136 = .ok (.iload_n 1, 1) := dk_0 a_Mo_readPlant_136 (dko_27 _)
theorem d_Mo_readPlant_137 : decode b_Mo_readPlant 137 = .ok (.iconst 0, 1) := dk_0 a_Mo_readPlant_137 (dko_3 _)
theorem d_Mo_readPlant_138 : decode b_Mo_readPlant 138 = .ok (.iastore, 1) := dk_0 a_Mo_readPlant_138 (dko_79 _)
theorem d_Mo_readPlant_139 : decode b_Mo_readPlant 139 = .ok (.aload_n 0, 1) := dk_0 a_Mo_readPlant_139 (dko_42 _)
theorem d_Mo_readPlant_140 : decode b_Mo_readPlant 140 = .ok (.iload_n 1, 1) := dk_0 a_Mo_readPlant_140 (dko_27 _)
theorem d_Mo_readPlant_141 : decode b_Mo_readPlant 141 = .ok (.invokevirtual 291, 3) := dk_U2 a_Mo_readPlant_141 (dko_182 _) rfl
theorem d_Mo_readPlant_144 : decode b_Mo_readPlant 144 = .ok (.iinc 1 1, 3) := dk_US a_Mo_readPlant_144 (dko_132 _) (by decide +kernel)
theorem d_Mo_readPlant_147 : decode b_Mo_readPlant 147 = .ok (.goto (-21), 3) := dk_S2 a_Mo_readPlant_147 (dko_167 _) (by decide +kernel)
theorem d_Mo_readPlant_150 : decode b_Mo_readPlant 150 = .ok (.aload_n 0, 1) := dk_0 a_Mo_readPlant_150 (dko_42 _)
theorem d_Mo_readPlant_151 : decode b_Mo_readPlant 151 = .ok (.getfield 278, 3) := dk_U2 a_Mo_readPlant_151 (dko_180 _) rfl
theorem d_Mo_readPlant_154 : decode b_Mo_readPlant 154 = .ok (.ireturn, 1) := dk_0 a_Mo_readPlant_154 (dko_172 _)
set_option maxHeartbeats 4000000 in
set_option maxRecDepth 100000 in
theorem ok_Mo_readPlant (pc : Nat) : OpS mt mi_Mo_readPlant pc (cs_Mo_readPlant pc) := (os_n (os_n (os_n (os_n (os_n (os_n (os_l (so_aload_n d_Mo_readPlant_0 rfl)) (os_l (so_iconst d_Mo_readPlant_1 (by decide)))) (os_n (os_l (so_putI (C := R_Mo) (T := F_Mo) (N := 87) (j := 21) in_Mo t_Mo_ok n_Mo rfl (by decide) mw_1815 rfl (by decide +kernel) d_Mo_readPlant_2)) (os_n (os_l (so_aload_n d_Mo_readPlant_5 rfl)) (os_l (so_iconst d_Mo_readPlant_6 (by decide)))))) (os_n (os_n (os_l (so_putI (C := R_Mo) (T := F_Mo) (N := 87) (j := 85) in_Mo t_Mo_ok n_Mo rfl (by decide) mw_1879 rfl (by decide +kernel) d_Mo_readPlant_7)) (os_l (so_aload_n d_Mo_readPlant_10 rfl))) (os_n (os_l (so_iconst d_Mo_readPlant_11 (by decide))) (os_n (os_l (so_putI (C := R_Mo) (T := F_Mo) (N := 87) (j := 86) in_Mo t_Mo_ok n_Mo rfl (by decide) mw_1880 rfl (by decide +kernel) d_Mo_readPlant_12)) (os_l (so_aload_n d_Mo_readPlant_15 rfl)))))) (os_n (os_n (os_n (os_l (so_get (C := R_Mo) (T := F_Mo) (N := 87) (j := 21) in_Mo rfl (by decide) mw_1815 d_Mo_readPlant_16)) (os_l (so_aload_n d_Mo_readPlant_19 rfl))) (os_n (os_l (so_get (C := R_Mo) (T := F_Mo) (N := 87) (j := 22) in_Mo rfl (by decide) mw_1816 d_Mo_readPlant_20)) (os_n (os_l (so_icge d_Mo_readPlant_23 (by decide))) (os_l (so_aload_n d_Mo_readPlant_26 rfl))))) (os_n (os_n (os_l (so_callV (iv := mi_Mo_planLine) rfl rfl rfl mw_2068 mw_2070 sl_90 mw_18 mw_2071 ⟨by decide +kernel, by decide +kernel, by decide +kernel⟩ (by decide) d_Mo_readPlant_27)) (os_n (os_l (so_istore_n d_Mo_readPlant_30 rfl (by decide))) (os_l (so_iload_n d_Mo_readPlant_31 rfl)))) (os_n (os_l (so_iconst d_Mo_readPlant_32 (by decide))) (os_n (os_l (so_iceq d_Mo_readPlant_33 (by decide))) (os_l (so_aload_n d_Mo_readPlant_36 rfl))))))) (os_n (os_n (os_n (os_n (os_l (so_iload_n d_Mo_readPlant_37 rfl)) (os_l (so_callV (iv := mi_Mo_isNew) rfl rfl rfl mw_2091 mw_2093 sl_94 mw_18 mw_2094 ⟨by decide +kernel, by decide +kernel, by decide +kernel⟩ (by decide) d_Mo_readPlant_38))) (os_n (os_l (so_ifne d_Mo_readPlant_41 (by decide))) (os_n (os_l (so_bipush d_Mo_readPlant_44 (by decide))) (os_l (so_aload_n d_Mo_readPlant_46 rfl))))) (os_n (os_n (os_l (so_get (C := R_Mo) (T := F_Mo) (N := 87) (j := 21) in_Mo rfl (by decide) mw_1815 d_Mo_readPlant_47)) (os_n (os_l (so_isub d_Mo_readPlant_50)) (os_l (so_ireturn rfl d_Mo_readPlant_51)))) (os_n (os_l (so_aload_n d_Mo_readPlant_52 rfl)) (os_n (os_l (so_dup d_Mo_readPlant_53)) (os_l (so_get (C := R_Mo) (T := F_Mo) (N := 87) (j := 21) in_Mo rfl (by decide) mw_1815 d_Mo_readPlant_54)))))) (os_n (os_n (os_n (os_l (so_iconst d_Mo_readPlant_57 (by decide))) (os_l (so_iadd d_Mo_readPlant_58))) (os_n (os_l (so_putI (C := R_Mo) (T := F_Mo) (N := 87) (j := 21) in_Mo t_Mo_ok n_Mo rfl (by decide) mw_1815 rfl (by decide +kernel) d_Mo_readPlant_59)) (os_n (os_l (so_goto d_Mo_readPlant_62 (by decide))) (os_l (so_aload_n d_Mo_readPlant_65 rfl))))) (os_n (os_n (os_l (so_iconst d_Mo_readPlant_66 (by decide))) (os_n (os_l (so_putI (C := R_Mo) (T := F_Mo) (N := 87) (j := 4) in_Mo t_Mo_ok n_Mo rfl (by decide) mw_1798 rfl (by decide +kernel) d_Mo_readPlant_67)) (os_l (so_aload_n d_Mo_readPlant_70 rfl)))) (os_n (os_l (so_iconst d_Mo_readPlant_71 (by decide))) (os_n (os_l (so_putI (C := R_Mo) (T := F_Mo) (N := 87) (j := 11) in_Mo t_Mo_ok n_Mo rfl (by decide) mw_1805 rfl (by decide +kernel) d_Mo_readPlant_72)) (os_l (so_aload_n d_Mo_readPlant_75 rfl)))))))) (os_n (os_n (os_n (os_n (os_n (os_l (so_iconst d_Mo_readPlant_76 (by decide))) (os_l (so_putI (C := R_Mo) (T := F_Mo) (N := 87) (j := 26) in_Mo t_Mo_ok n_Mo rfl (by decide) mw_1820 rfl (by decide +kernel) d_Mo_readPlant_77))) (os_n (os_l (so_aload_n d_Mo_readPlant_80 rfl)) (os_n (os_l (so_iconst d_Mo_readPlant_81 (by decide))) (os_l (so_putI (C := R_Mo) (T := F_Mo) (N := 87) (j := 59) in_Mo t_Mo_ok n_Mo rfl (by decide) mw_1853 rfl (by decide +kernel) d_Mo_readPlant_82))))) (os_n (os_n (os_l (so_aload_n d_Mo_readPlant_85 rfl)) (os_n (os_l (so_iconst d_Mo_readPlant_86 (by decide))) (os_l (so_putI (C := R_Mo) (T := F_Mo) (N := 87) (j := 21) in_Mo t_Mo_ok n_Mo rfl (by decide) mw_1815 rfl (by decide +kernel) d_Mo_readPlant_87)))) (os_n (os_l (so_aload_n d_Mo_readPlant_90 rfl)) (os_n (os_l (so_get (C := R_Mo) (T := F_Mo) (N := 87) (j := 21) in_Mo rfl (by decide) mw_1815 d_Mo_readPlant_91)) (os_l (so_aload_n d_Mo_readPlant_94 rfl)))))) (os_n (os_n (os_n (os_l (so_get (C := R_Mo) (T := F_Mo) (N := 87) (j := 22) in_Mo rfl (by decide) mw_1816 d_Mo_readPlant_95)) (os_l (so_icge d_Mo_readPlant_98 (by decide)))) (os_n (os_l (so_aload_n d_Mo_readPlant_101 rfl)) (os_n (os_l (so_callV (iv := mi_Mo_planLine) rfl rfl rfl mw_2068 mw_2070 sl_90 mw_18 mw_2071 ⟨by decide +kernel, by decide +kernel, by decide +kernel⟩ (by decide) d_Mo_readPlant_102)) (os_l (so_istore_n d_Mo_readPlant_105 rfl (by decide)))))) (os_n (os_n (os_l (so_aload_n d_Mo_readPlant_106 rfl)) (os_n (os_l (so_iload_n d_Mo_readPlant_107 rfl)) (os_l (so_callV (iv := mi_Mo_build) rfl rfl rfl mw_2099 mw_2101 sl_95 mw_18 mw_2102 ⟨by decide +kernel, by decide +kernel, by decide +kernel⟩ (by decide) d_Mo_readPlant_108)))) (os_n (os_l (so_aload_n d_Mo_readPlant_111 rfl)) (os_n (os_l (so_dup d_Mo_readPlant_112)) (os_l (so_get (C := R_Mo) (T := F_Mo) (N := 87) (j := 21) in_Mo rfl (by decide) mw_1815 d_Mo_readPlant_113))))))) (os_n (os_n (os_n (os_n (os_l (so_iconst d_Mo_readPlant_116 (by decide))) (os_l (so_iadd d_Mo_readPlant_117))) (os_n (os_l (so_putI (C := R_Mo) (T := F_Mo) (N := 87) (j := 21) in_Mo t_Mo_ok n_Mo rfl (by decide) mw_1815 rfl (by decide +kernel) d_Mo_readPlant_118)) (os_n (os_l (so_goto d_Mo_readPlant_121 (by decide))) (os_l (so_iconst d_Mo_readPlant_124 (by decide)))))) (os_n (os_n (os_l (so_istore_n d_Mo_readPlant_125 rfl (by decide))) (os_n (os_l (so_iload_n d_Mo_readPlant_126 rfl)) (os_l (so_bipush d_Mo_readPlant_127 (by decide))))) (os_n (os_l (so_icge d_Mo_readPlant_129 (by decide))) (os_n (os_l (so_aload_n d_Mo_readPlant_132 rfl)) (os_l (so_get (C := R_Mo) (T := F_Mo) (N := 87) (j := 16) in_Mo rfl (by decide) mw_1810 d_Mo_readPlant_133)))))) (os_n (os_n (os_n (os_l (so_iload_n d_Mo_readPlant_136 rfl)) (os_l (so_iconst d_Mo_readPlant_137 (by decide)))) (os_n (os_l (so_iastore d_Mo_readPlant_138)) (os_n (os_l (so_aload_n d_Mo_readPlant_139 rfl)) (os_l (so_iload_n d_Mo_readPlant_140 rfl))))) (os_n (os_n (os_l (so_callV (iv := mi_Mo_forget) rfl rfl rfl mw_2103 mw_2105 sl_96 mw_18 mw_2106 ⟨by decide +kernel, by decide +kernel, by decide +kernel⟩ (by decide) d_Mo_readPlant_141)) (os_n (os_l (so_iinc d_Mo_readPlant_144 (by decide) (by decide))) (os_l (so_goto d_Mo_readPlant_147 (by decide))))) (os_n (os_l (so_aload_n d_Mo_readPlant_150 rfl)) (os_n (os_l (so_get (C := R_Mo) (T := F_Mo) (N := 87) (j := 4) in_Mo rfl (by decide) mw_1798 d_Mo_readPlant_151)) (os_l (so_ireturn rfl d_Mo_readPlant_154)))))))))
