abbrev t_Tx_node1_10 : List UInt8 := 172 :: []
abbrev t_Tx_node1_9 : List UInt8 := 96 :: t_Tx_node1_10
abbrev t_Tx_node1_8 : List UInt8 := 27 :: t_Tx_node1_9
abbrev t_Tx_node1_7 : List UInt8 := 104 :: t_Tx_node1_8
abbrev t_Tx_node1_4 : List UInt8 := 180 :: 0 :: 186 :: t_Tx_node1_7
abbrev t_Tx_node1_3 : List UInt8 := 42 :: t_Tx_node1_4
abbrev t_Tx_node1_0 : List UInt8 := 17 :: 1 :: 44 :: t_Tx_node1_3
theorem a_Tx_node1_0 : dk_at b_Tx_node1 0 t_Tx_node1_0 := dk_start (by decide +kernel)
theorem a_Tx_node1_3 : dk_at b_Tx_node1 3 t_Tx_node1_3 := dk_go 3 a_Tx_node1_0 rfl
theorem a_Tx_node1_4 : dk_at b_Tx_node1 4 t_Tx_node1_4 := dk_go 1 a_Tx_node1_3 rfl
theorem a_Tx_node1_7 : dk_at b_Tx_node1 7 t_Tx_node1_7 := dk_go 3 a_Tx_node1_4 rfl
theorem a_Tx_node1_8 : dk_at b_Tx_node1 8 t_Tx_node1_8 := dk_go 1 a_Tx_node1_7 rfl
theorem a_Tx_node1_9 : dk_at b_Tx_node1 9 t_Tx_node1_9 := dk_go 1 a_Tx_node1_8 rfl
theorem a_Tx_node1_10 : dk_at b_Tx_node1 10 t_Tx_node1_10 := dk_go 1 a_Tx_node1_9 rfl
theorem d_Tx_node1_0 : decode b_Tx_node1 0 = .ok (.sipush 300, 3) := dk_S2 a_Tx_node1_0 (dko_17 _) (by decide +kernel)
theorem d_Tx_node1_3 : decode b_Tx_node1 3 = .ok (.aload_n 0, 1) := dk_0 a_Tx_node1_3 (dko_42 _)
theorem d_Tx_node1_4 : decode b_Tx_node1 4 = .ok (.getfield 186, 3) := dk_U2 a_Tx_node1_4 (dko_180 _) rfl
theorem d_Tx_node1_7 : decode b_Tx_node1 7 = .ok (.imul, 1) := dk_0 a_Tx_node1_7 (dko_104 _)
theorem d_Tx_node1_8 : decode b_Tx_node1 8 = .ok (.iload_n 1, 1) := dk_0 a_Tx_node1_8 (dko_27 _)
theorem d_Tx_node1_9 : decode b_Tx_node1 9 = .ok (.iadd, 1) := dk_0 a_Tx_node1_9 (dko_96 _)
theorem d_Tx_node1_10 : decode b_Tx_node1 10 = .ok (.ireturn, 1) := dk_0 a_Tx_node1_10 (dko_172 _)
set_option maxHeartbeats 4000000 in
set_option maxRecDepth 100000 in
theorem ok_Tx_node1 (pc : Nat) : OpS mt mi_Tx_node1 pc (cs_Tx_node1 pc) := (os_n (os_n (os_l (so_sipush d_Tx_node1_0 (by decide))) (os_n (os_l (so_aload_n d_Tx_node1_3 rfl)) (os_l (so_get (C := R_Tx) (T := F_Tx) (N := 39) (j := 12) in_Tx rfl (by decide) mw_1591 d_Tx_node1_4)))) (os_n (os_n (os_l (so_imul d_Tx_node1_7)) (os_l (so_iload_n d_Tx_node1_8 rfl))) (os_n (os_l (so_iadd d_Tx_node1_9)) (os_l (so_ireturn rfl d_Tx_node1_10)))))
abbrev t_Tx_kid_26 : List UInt8 := 172 :: []
abbrev t_Tx_kid_25 : List UInt8 := 46 :: t_Tx_kid_26
abbrev t_Tx_kid_24 : List UInt8 := 96 :: t_Tx_kid_25
abbrev t_Tx_kid_23 : List UInt8 := 28 :: t_Tx_kid_24
abbrev t_Tx_kid_22 : List UInt8 := 96 :: t_Tx_kid_23
abbrev t_Tx_kid_21 : List UInt8 := 46 :: t_Tx_kid_22
abbrev t_Tx_kid_18 : List UInt8 := 182 :: 1 :: 49 :: t_Tx_kid_21
abbrev t_Tx_kid_17 : List UInt8 := 27 :: t_Tx_kid_18
abbrev t_Tx_kid_16 : List UInt8 := 42 :: t_Tx_kid_17
abbrev t_Tx_kid_13 : List UInt8 := 180 :: 0 :: 29 :: t_Tx_kid_16
abbrev t_Tx_kid_12 : List UInt8 := 42 :: t_Tx_kid_13
abbrev t_Tx_kid_11 : List UInt8 := 104 :: t_Tx_kid_12
abbrev t_Tx_kid_8 : List UInt8 := 180 :: 0 :: 186 :: t_Tx_kid_11
abbrev t_Tx_kid_7 : List UInt8 := 42 :: t_Tx_kid_8
abbrev t_Tx_kid_4 : List UInt8 := 17 :: 1 :: 44 :: t_Tx_kid_7
abbrev t_Tx_kid_1 : List UInt8 := 180 :: 0 :: 35 :: t_Tx_kid_4
abbrev t_Tx_kid_0 : List UInt8 := 42 :: t_Tx_kid_1
theorem a_Tx_kid_0 : dk_at b_Tx_kid 0 t_Tx_kid_0 := dk_start (by decide +kernel)
theorem a_Tx_kid_1 : dk_at b_Tx_kid 1 t_Tx_kid_1 := dk_go 1 a_Tx_kid_0 rfl
theorem a_Tx_kid_4 : dk_at b_Tx_kid 4 t_Tx_kid_4 := dk_go 3 a_Tx_kid_1 rfl
theorem a_Tx_kid_7 : dk_at b_Tx_kid 7 t_Tx_kid_7 := dk_go 3 a_Tx_kid_4 rfl
theorem a_Tx_kid_8 : dk_at b_Tx_kid 8 t_Tx_kid_8 := dk_go 1 a_Tx_kid_7 rfl
theorem a_Tx_kid_11 : dk_at b_Tx_kid 11 t_Tx_kid_11 := dk_go 3 a_Tx_kid_8 rfl
theorem a_Tx_kid_12 : dk_at b_Tx_kid 12 t_Tx_kid_12 := dk_go 1 a_Tx_kid_11 rfl
theorem a_Tx_kid_13 : dk_at b_Tx_kid 13 t_Tx_kid_13 := dk_go 1 a_Tx_kid_12 rfl
theorem a_Tx_kid_16 : dk_at b_Tx_kid 16 t_Tx_kid_16 := dk_go 3 a_Tx_kid_13 rfl
theorem a_Tx_kid_17 : dk_at b_Tx_kid 17 t_Tx_kid_17 := dk_go 1 a_Tx_kid_16 rfl
theorem a_Tx_kid_18 : dk_at b_Tx_kid 18 t_Tx_kid_18 := dk_go 1 a_Tx_kid_17 rfl
theorem a_Tx_kid_21 : dk_at b_Tx_kid 21 t_Tx_kid_21 := dk_go 3 a_Tx_kid_18 rfl
theorem a_Tx_kid_22 : dk_at b_Tx_kid 22 t_Tx_kid_22 := dk_go 1 a_Tx_kid_21 rfl
theorem a_Tx_kid_23 : dk_at b_Tx_kid 23 t_Tx_kid_23 := dk_go 1 a_Tx_kid_22 rfl
theorem a_Tx_kid_24 : dk_at b_Tx_kid 24 t_Tx_kid_24 := dk_go 1 a_Tx_kid_23 rfl
theorem a_Tx_kid_25 : dk_at b_Tx_kid 25 t_Tx_kid_25 := dk_go 1 a_Tx_kid_24 rfl
theorem a_Tx_kid_26 : dk_at b_Tx_kid 26 t_Tx_kid_26 := dk_go 1 a_Tx_kid_25 rfl
theorem d_Tx_kid_0 : decode b_Tx_kid 0 = .ok (.aload_n 0, 1) := dk_0 a_Tx_kid_0 (dko_42 _)
theorem d_Tx_kid_1 : decode b_Tx_kid 1 = .ok (.getfield 35, 3) := dk_U2 a_Tx_kid_1 (dko_180 _) rfl
theorem d_Tx_kid_4 : decode b_Tx_kid 4 = .ok (.sipush 300, 3) := dk_S2 a_Tx_kid_4 (dko_17 _) (by decide +kernel)
theorem d_Tx_kid_7 : decode b_Tx_kid 7 = .ok (.aload_n 0, 1) := dk_0 a_Tx_kid_7 (dko_42 _)
theorem d_Tx_kid_8 : decode b_Tx_kid 8 = .ok (.getfield 186, 3) := dk_U2 a_Tx_kid_8 (dko_180 _) rfl
theorem d_Tx_kid_11 : decode b_Tx_kid 11 = .ok (.imul, 1) := dk_0 a_Tx_kid_11 (dko_104 _)
theorem d_Tx_kid_12 : decode b_Tx_kid 12 = .ok (.aload_n 0, 1) := dk_0 a_Tx_kid_12 (dko_42 _)
theorem d_Tx_kid_13 : decode b_Tx_kid 13 = .ok (.getfield 29, 3) := dk_U2 a_Tx_kid_13 (dko_180 _) rfl
theorem d_Tx_kid_16 : decode b_Tx_kid 16 = .ok (.aload_n 0, 1) := dk_0 a_Tx_kid_16 (dko_42 _)
theorem d_Tx_kid_17 : decode b_Tx_kid 17 = .ok (.iload_n 1, 1) := dk_0 a_Tx_kid_17 (dko_27 _)
theorem d_Tx_kid_18 : decode b_Tx_kid 18 = .ok (.invokevirtual 305, 3) := dk_U2 a_Tx_kid_18 (dko_182 _) rfl
theorem d_Tx_kid_21 : decode b_Tx_kid 21 = .ok (.iaload, 1) := dk_0 a_Tx_kid_21 (dko_46 _)
theorem d_Tx_kid_22 : decode b_Tx_kid 22 = .ok (.iadd, 1) := dk_0 a_Tx_kid_22 (dko_96 _)
theorem d_Tx_kid_23 : decode b_Tx_kid 23 = .ok (.iload_n 2, 1) := dk_0 a_Tx_kid_23 (dko_28 _)
theorem d_Tx_kid_24 : decode b_Tx_kid 24 = .ok (.iadd, 1) := dk_0 a_Tx_kid_24 (dko_96 _)
theorem d_Tx_kid_25 : decode b_Tx_kid 25 = .ok (.iaload, 1) := dk_0 a_Tx_kid_25 (dko_46 _)
theorem d_Tx_kid_26 : decode b_Tx_kid 26 = .ok (.ireturn, 1) := dk_0 a_Tx_kid_26 (dko_172 _)
set_option maxHeartbeats 4000000 in
set_option maxRecDepth 100000 in
theorem ok_Tx_kid (pc : Nat) : OpS mt mi_Tx_kid pc (cs_Tx_kid pc) := (os_n (os_n (os_n (os_n (os_l (so_aload_n d_Tx_kid_0 rfl)) (os_l (so_get (C := R_Tx) (T := F_Tx) (N := 39) (j := 20) in_Tx rfl (by decide) mw_1603 d_Tx_kid_1))) (os_n (os_l (so_sipush d_Tx_kid_4 (by decide))) (os_l (so_aload_n d_Tx_kid_7 rfl)))) (os_n (os_n (os_l (so_get (C := R_Tx) (T := F_Tx) (N := 39) (j := 12) in_Tx rfl (by decide) mw_1591 d_Tx_kid_8)) (os_l (so_imul d_Tx_kid_11))) (os_n (os_l (so_aload_n d_Tx_kid_12 rfl)) (os_l (so_get (C := R_Tx) (T := F_Tx) (N := 39) (j := 18) in_Tx rfl (by decide) mw_1600 d_Tx_kid_13))))) (os_n (os_n (os_n (os_l (so_aload_n d_Tx_kid_16 rfl)) (os_l (so_iload_n d_Tx_kid_17 rfl))) (os_n (os_l (so_callV (iv := mi_Tx_node1) rfl rfl rfl mw_2590 mw_2580 sl_175 mw_19 mw_2581 ⟨by decide +kernel, by decide +kernel, by decide +kernel⟩ (by decide) d_Tx_kid_18)) (os_l (so_iaload d_Tx_kid_21)))) (os_n (os_n (os_l (so_iadd d_Tx_kid_22)) (os_l (so_iload_n d_Tx_kid_23 rfl))) (os_n (os_l (so_iadd d_Tx_kid_24)) (os_n (os_l (so_iaload d_Tx_kid_25)) (os_l (so_ireturn rfl d_Tx_kid_26)))))))
abbrev t_Ma_min_10 : List UInt8 := 172 :: []
abbrev t_Ma_min_9 : List UInt8 := 27 :: t_Ma_min_10
abbrev t_Ma_min_6 : List UInt8 := 167 :: 0 :: 4 :: t_Ma_min_9
abbrev t_Ma_min_5 : List UInt8 := 26 :: t_Ma_min_6
abbrev t_Ma_min_2 : List UInt8 := 163 :: 0 :: 7 :: t_Ma_min_5
abbrev t_Ma_min_1 : List UInt8 := 27 :: t_Ma_min_2
abbrev t_Ma_min_0 : List UInt8 := 26 :: t_Ma_min_1
theorem a_Ma_min_0 : dk_at b_Ma_min 0 t_Ma_min_0 := dk_start (by decide +kernel)
theorem a_Ma_min_1 : dk_at b_Ma_min 1 t_Ma_min_1 := dk_go 1 a_Ma_min_0 rfl
theorem a_Ma_min_2 : dk_at b_Ma_min 2 t_Ma_min_2 := dk_go 1 a_Ma_min_1 rfl
theorem a_Ma_min_5 : dk_at b_Ma_min 5 t_Ma_min_5 := dk_go 3 a_Ma_min_2 rfl
theorem a_Ma_min_6 : dk_at b_Ma_min 6 t_Ma_min_6 := dk_go 1 a_Ma_min_5 rfl
theorem a_Ma_min_9 : dk_at b_Ma_min 9 t_Ma_min_9 := dk_go 3 a_Ma_min_6 rfl
theorem a_Ma_min_10 : dk_at b_Ma_min 10 t_Ma_min_10 := dk_go 1 a_Ma_min_9 rfl
theorem d_Ma_min_0 : decode b_Ma_min 0 = .ok (.iload_n 0, 1) := dk_0 a_Ma_min_0 (dko_26 _)
theorem d_Ma_min_1 : decode b_Ma_min 1 = .ok (.iload_n 1, 1) := dk_0 a_Ma_min_1 (dko_27 _)
theorem d_Ma_min_2 : decode b_Ma_min 2 = .ok (.if_icmp .gt 7, 3) := dk_S2 a_Ma_min_2 (dko_163 _) (by decide +kernel)
theorem d_Ma_min_5 : decode b_Ma_min 5 = .ok (.iload_n 0, 1) := dk_0 a_Ma_min_5 (dko_26 _)
theorem d_Ma_min_6 : decode b_Ma_min 6 = .ok (.goto 4, 3) := dk_S2 a_Ma_min_6 (dko_167 _) (by decide +kernel)
theorem d_Ma_min_9 : decode b_Ma_min 9 = .ok (.iload_n 1, 1) := dk_0 a_Ma_min_9 (dko_27 _)
theorem d_Ma_min_10 : decode b_Ma_min 10 = .ok (.ireturn, 1) := dk_0 a_Ma_min_10 (dko_172 _)
set_option maxHeartbeats 4000000 in
set_option maxRecDepth 100000 in
theorem ok_Ma_min (pc : Nat) : OpS mt mi_Ma_min pc (cs_Ma_min pc) := (os_n (os_n (os_l (so_iload_n d_Ma_min_0 rfl)) (os_n (os_l (so_iload_n d_Ma_min_1 rfl)) (os_l (so_icgt d_Ma_min_2 (by decide))))) (os_n (os_n (os_l (so_iload_n d_Ma_min_5 rfl)) (os_l (so_goto d_Ma_min_6 (by decide)))) (os_n (os_l (so_iload_n d_Ma_min_9 rfl)) (os_l (so_ireturn rfl d_Ma_min_10)))))
abbrev t_Ma_max_10 : List UInt8 := 172 :: []
abbrev t_Ma_max_9 : List UInt8 := 27 :: t_Ma_max_10
abbrev t_Ma_max_6 : List UInt8 := 167 :: 0 :: 4 :: t_Ma_max_9
abbrev t_Ma_max_5 : List UInt8 := 26 :: t_Ma_max_6
abbrev t_Ma_max_2 : List UInt8 := 161 :: 0 :: 7 :: t_Ma_max_5
abbrev t_Ma_max_1 : List UInt8 := 27 :: t_Ma_max_2
abbrev t_Ma_max_0 : List UInt8 := 26 :: t_Ma_max_1
theorem a_Ma_max_0 : dk_at b_Ma_max 0 t_Ma_max_0 := dk_start (by decide +kernel)
theorem a_Ma_max_1 : dk_at b_Ma_max 1 t_Ma_max_1 := dk_go 1 a_Ma_max_0 rfl
theorem a_Ma_max_2 : dk_at b_Ma_max 2 t_Ma_max_2 := dk_go 1 a_Ma_max_1 rfl
theorem a_Ma_max_5 : dk_at b_Ma_max 5 t_Ma_max_5 := dk_go 3 a_Ma_max_2 rfl
theorem a_Ma_max_6 : dk_at b_Ma_max 6 t_Ma_max_6 := dk_go 1 a_Ma_max_5 rfl
theorem a_Ma_max_9 : dk_at b_Ma_max 9 t_Ma_max_9 := dk_go 3 a_Ma_max_6 rfl
theorem a_Ma_max_10 : dk_at b_Ma_max 10 t_Ma_max_10 := dk_go 1 a_Ma_max_9 rfl
theorem d_Ma_max_0 : decode b_Ma_max 0 = .ok (.iload_n 0, 1) := dk_0 a_Ma_max_0 (dko_26 _)
theorem d_Ma_max_1 : decode b_Ma_max 1 = .ok (.iload_n 1, 1) := dk_0 a_Ma_max_1 (dko_27 _)
theorem d_Ma_max_2 : decode b_Ma_max 2 = .ok (.if_icmp .lt 7, 3) := dk_S2 a_Ma_max_2 (dko_161 _) (by decide +kernel)
theorem d_Ma_max_5 : decode b_Ma_max 5 = .ok (.iload_n 0, 1) := dk_0 a_Ma_max_5 (dko_26 _)
theorem d_Ma_max_6 : decode b_Ma_max 6 = .ok (.goto 4, 3) := dk_S2 a_Ma_max_6 (dko_167 _) (by decide +kernel)
theorem d_Ma_max_9 : decode b_Ma_max 9 = .ok (.iload_n 1, 1) := dk_0 a_Ma_max_9 (dko_27 _)
theorem d_Ma_max_10 : decode b_Ma_max 10 = .ok (.ireturn, 1) := dk_0 a_Ma_max_10 (dko_172 _)
set_option maxHeartbeats 4000000 in
set_option maxRecDepth 100000 in
theorem ok_Ma_max (pc : Nat) : OpS mt mi_Ma_max pc (cs_Ma_max pc) := (os_n (os_n (os_l (so_iload_n d_Ma_max_0 rfl)) (os_n (os_l (so_iload_n d_Ma_max_1 rfl)) (os_l (so_iclt d_Ma_max_2 (by decide))))) (os_n (os_n (os_l (so_iload_n d_Ma_max_5 rfl)) (os_l (so_goto d_Ma_max_6 (by decide)))) (os_n (os_l (so_iload_n d_Ma_max_9 rfl)) (os_l (so_ireturn rfl d_Ma_max_10)))))
abbrev t_Ma_floorDiv_29 : List UInt8 := 173 :: []
abbrev t_Ma_floorDiv_27 : List UInt8 := 22 :: 4 :: t_Ma_floorDiv_29
abbrev t_Ma_floorDiv_26 : List UInt8 := 173 :: t_Ma_floorDiv_27
abbrev t_Ma_floorDiv_25 : List UInt8 := 101 :: t_Ma_floorDiv_26
abbrev t_Ma_floorDiv_24 : List UInt8 := 10 :: t_Ma_floorDiv_25
abbrev t_Ma_floorDiv_22 : List UInt8 := 22 :: 4 :: t_Ma_floorDiv_24
abbrev t_Ma_floorDiv_19 : List UInt8 := 153 :: 0 :: 8 :: t_Ma_floorDiv_22
abbrev t_Ma_floorDiv_18 : List UInt8 := 148 :: t_Ma_floorDiv_19
abbrev t_Ma_floorDiv_17 : List UInt8 := 30 :: t_Ma_floorDiv_18
abbrev t_Ma_floorDiv_16 : List UInt8 := 105 :: t_Ma_floorDiv_17
abbrev t_Ma_floorDiv_15 : List UInt8 := 32 :: t_Ma_floorDiv_16
abbrev t_Ma_floorDiv_13 : List UInt8 := 22 :: 4 :: t_Ma_floorDiv_15
abbrev t_Ma_floorDiv_10 : List UInt8 := 156 :: 0 :: 17 :: t_Ma_floorDiv_13
abbrev t_Ma_floorDiv_9 : List UInt8 := 148 :: t_Ma_floorDiv_10
abbrev t_Ma_floorDiv_8 : List UInt8 := 9 :: t_Ma_floorDiv_9
abbrev t_Ma_floorDiv_7 : List UInt8 := 131 :: t_Ma_floorDiv_8
abbrev t_Ma_floorDiv_6 : List UInt8 := 32 :: t_Ma_floorDiv_7
abbrev t_Ma_floorDiv_5 : List UInt8 := 30 :: t_Ma_floorDiv_6
abbrev t_Ma_floorDiv_3 : List UInt8 := 55 :: 4 :: t_Ma_floorDiv_5
abbrev t_Ma_floorDiv_2 : List UInt8 := 109 :: t_Ma_floorDiv_3
abbrev t_Ma_floorDiv_1 : List UInt8 := 32 :: t_Ma_floorDiv_2
abbrev t_Ma_floorDiv_0 : List UInt8 := 30 :: t_Ma_floorDiv_1
theorem a_Ma_floorDiv_0 : dk_at b_Ma_floorDiv 0 t_Ma_floorDiv_0 := dk_start (by decide +kernel)
theorem a_Ma_floorDiv_1 : dk_at b_Ma_floorDiv 1 t_Ma_floorDiv_1 := dk_go 1 a_Ma_floorDiv_0 rfl
theorem a_Ma_floorDiv_2 : dk_at b_Ma_floorDiv 2 t_Ma_floorDiv_2 := dk_go 1 a_Ma_floorDiv_1 rfl
theorem a_Ma_floorDiv_3 : dk_at b_Ma_floorDiv 3 t_Ma_floorDiv_3 := dk_go 1 a_Ma_floorDiv_2 rfl
theorem a_Ma_floorDiv_5 : dk_at b_Ma_floorDiv 5 t_Ma_floorDiv_5 := dk_go 2 a_Ma_floorDiv_3 rfl
theorem a_Ma_floorDiv_6 : dk_at b_Ma_floorDiv 6 t_Ma_floorDiv_6 := dk_go 1 a_Ma_floorDiv_5 rfl
theorem a_Ma_floorDiv_7 : dk_at b_Ma_floorDiv 7 t_Ma_floorDiv_7 := dk_go 1 a_Ma_floorDiv_6 rfl
theorem a_Ma_floorDiv_8 : dk_at b_Ma_floorDiv 8 t_Ma_floorDiv_8 := dk_go 1 a_Ma_floorDiv_7 rfl
theorem a_Ma_floorDiv_9 : dk_at b_Ma_floorDiv 9 t_Ma_floorDiv_9 := dk_go 1 a_Ma_floorDiv_8 rfl
theorem a_Ma_floorDiv_10 : dk_at b_Ma_floorDiv 10 t_Ma_floorDiv_10 := dk_go 1 a_Ma_floorDiv_9 rfl
theorem a_Ma_floorDiv_13 : dk_at b_Ma_floorDiv 13 t_Ma_floorDiv_13 := dk_go 3 a_Ma_floorDiv_10 rfl
theorem a_Ma_floorDiv_15 : dk_at b_Ma_floorDiv 15 t_Ma_floorDiv_15 := dk_go 2 a_Ma_floorDiv_13 rfl
theorem a_Ma_floorDiv_16 : dk_at b_Ma_floorDiv 16 t_Ma_floorDiv_16 := dk_go 1 a_Ma_floorDiv_15 rfl
theorem a_Ma_floorDiv_17 : dk_at b_Ma_floorDiv 17 t_Ma_floorDiv_17 := dk_go 1 a_Ma_floorDiv_16 rfl
theorem a_Ma_floorDiv_18 : dk_at b_Ma_floorDiv 18 t_Ma_floorDiv_18 := dk_go 1 a_Ma_floorDiv_17 rfl
theorem a_Ma_floorDiv_19 : dk_at b_Ma_floorDiv 19 t_Ma_floorDiv_19 := dk_go 1 a_Ma_floorDiv_18 rfl
theorem a_Ma_floorDiv_22 : dk_at b_Ma_floorDiv 22 t_Ma_floorDiv_22 := dk_go 3 a_Ma_floorDiv_19 rfl
theorem a_Ma_floorDiv_24 : dk_at b_Ma_floorDiv 24 t_Ma_floorDiv_24 := dk_go 2 a_Ma_floorDiv_22 rfl
theorem a_Ma_floorDiv_25 : dk_at b_Ma_floorDiv 25 t_Ma_floorDiv_25 := dk_go 1 a_Ma_floorDiv_24 rfl
theorem a_Ma_floorDiv_26 : dk_at b_Ma_floorDiv 26 t_Ma_floorDiv_26 := dk_go 1 a_Ma_floorDiv_25 rfl
theorem a_Ma_floorDiv_27 : dk_at b_Ma_floorDiv 27 t_Ma_floorDiv_27 := dk_go 1 a_Ma_floorDiv_26 rfl
theorem a_Ma_floorDiv_29 : dk_at b_Ma_floorDiv 29 t_Ma_floorDiv_29 := dk_go 2 a_Ma_floorDiv_27 rfl
theorem d_Ma_floorDiv_0 : decode b_Ma_floorDiv 0 = .ok (.lload_n 0, 1) := dk_0 a_Ma_floorDiv_0 (dko_30 _)
theorem d_Ma_floorDiv_1 : decode b_Ma_floorDiv 1 = .ok (.lload_n 2, 1) := dk_0 a_Ma_floorDiv_1 (dko_32 _)
theorem d_Ma_floorDiv_2 : decode b_Ma_floorDiv 2 = .ok (.ldiv, 1) := dk_0 a_Ma_floorDiv_2 (dko_109 _)
theorem d_Ma_floorDiv_3 : decode b_Ma_floorDiv 3 = .ok (.lstore 4, 2) := dk_U1 a_Ma_floorDiv_3 (dko_55 _) rfl
theorem d_Ma_floorDiv_5 : decode b_Ma_floorDiv 5 = .ok (.lload_n 0, 1) := dk_0 a_Ma_floorDiv_5 (dko_30 _)
theorem d_Ma_floorDiv_6 : decode b_Ma_floorDiv 6 = .ok (.lload_n 2, 1) := dk_0 a_Ma_floorDiv_6 (dko_32 _)
theorem d_Ma_floorDiv_7 : decode b_Ma_floorDiv 7 = .ok (.lxor, 1) := dk_0 a_Ma_floorDiv_7 (dko_131 _)
theorem d_Ma_floorDiv_8 : decode b_Ma_floorDiv 8 = .ok (.lconst 0, 1) := dk_0 a_Ma_floorDiv_8 (dko_9 _)
theorem d_Ma_floorDiv_9 : decode b_Ma_floorDiv 9 = .ok (.lcmp, 1) := dk_0 a_Ma_floorDiv_9 (dko_148 _)
theorem d_Ma_floorDiv_10 : decode b_Ma_floorDiv 10 = .ok (.ifCond .ge 17, 3) := dk_S2 a_Ma_floorDiv_10 (dko_156 _) (by decide +kernel)
theorem d_Ma_floorDiv_13 : decode b_Ma_floorDiv 13 = .ok (.lload 4, 2) := dk_U1 a_Ma_floorDiv_13 (dko_22 _) rfl
theorem d_Ma_floorDiv_15 : decode b_Ma_floorDiv 15 = .ok (.lload_n 2, 1) := dk_0 a_Ma_floorDiv_15 (dko_32 _)
theorem d_Ma_floorDiv_16 : decode b_Ma_floorDiv 16 = .ok (.lmul, 1) := dk_0 a_Ma_floorDiv_16 (dko_105 _)
theorem d_Ma_floorDiv_17 : decode b_Ma_floorDiv 17 = .ok (.lload_n 0, 1) := dk_0 a_Ma_floorDiv_17 (dko_30 _)
theorem d_Ma_floorDiv_18 : decode b_Ma_floorDiv 18 = .ok (.lcmp, 1) := dk_0 a_Ma_floorDiv_18 (dko_148 _)
theorem d_Ma_floorDiv_19 : decode b_Ma_floorDiv 19 = .ok (.ifCond .eq 8, 3) := dk_S2 a_Ma_floorDiv_19 (dko_153 _) (by decide +kernel)
theorem d_Ma_floorDiv_22 : decode b_Ma_floorDiv 22 = .ok (.lload 4, 2) := dk_U1 a_Ma_floorDiv_22 (dko_22 _) rfl
theorem d_Ma_floorDiv_24 : decode b_Ma_floorDiv 24 = .ok (.lconst 1, 1) := dk_0 a_Ma_floorDiv_24 (dko_10 _)
theorem d_Ma_floorDiv_25 : decode b_Ma_floorDiv 25 = .ok (.lsub, 1) := dk_0 a_Ma_floorDiv_25 (dko_101 _)
theorem d_Ma_floorDiv_26 : decode b_Ma_floorDiv 26 = .ok (.lreturn, 1) := dk_0 a_Ma_floorDiv_26 (dko_173 _)
theorem d_Ma_floorDiv_27 : decode b_Ma_floorDiv 27 = .ok (.lload 4, 2) := dk_U1 a_Ma_floorDiv_27 (dko_22 _) rfl
theorem d_Ma_floorDiv_29 : decode b_Ma_floorDiv 29 = .ok (.lreturn, 1) := dk_0 a_Ma_floorDiv_29 (dko_173 _)
set_option maxHeartbeats 4000000 in
set_option maxRecDepth 100000 in
theorem ok_Ma_floorDiv (pc : Nat) : OpS mt mi_Ma_floorDiv pc (cs_Ma_floorDiv pc) := (os_n (os_n (os_n (os_n (os_l (so_lload_n d_Ma_floorDiv_0 rfl)) (os_l (so_lload_n d_Ma_floorDiv_1 rfl))) (os_n (os_l (so_ldiv d_Ma_floorDiv_2)) (os_n (os_l (so_lstore d_Ma_floorDiv_3 (by decide))) (os_l (so_lload_n d_Ma_floorDiv_5 rfl))))) (os_n (os_n (os_l (so_lload_n d_Ma_floorDiv_6 rfl)) (os_n (os_l (so_lxor d_Ma_floorDiv_7)) (os_l (so_lconst d_Ma_floorDiv_8 (by decide))))) (os_n (os_l (so_lcmp d_Ma_floorDiv_9)) (os_n (os_l (so_ifge d_Ma_floorDiv_10 (by decide))) (os_l (so_lload d_Ma_floorDiv_13)))))) (os_n (os_n (os_n (os_l (so_lload_n d_Ma_floorDiv_15 rfl)) (os_l (so_lmul d_Ma_floorDiv_16))) (os_n (os_l (so_lload_n d_Ma_floorDiv_17 rfl)) (os_n (os_l (so_lcmp d_Ma_floorDiv_18)) (os_l (so_ifeq d_Ma_floorDiv_19 (by decide)))))) (os_n (os_n (os_l (so_lload d_Ma_floorDiv_22)) (os_n (os_l (so_lconst d_Ma_floorDiv_24 (by decide))) (os_l (so_lsub d_Ma_floorDiv_25)))) (os_n (os_l (so_lreturn rfl d_Ma_floorDiv_26)) (os_n (os_l (so_lload d_Ma_floorDiv_27)) (os_l (so_lreturn rfl d_Ma_floorDiv_29)))))))
abbrev t_Lo_numberOfTrailingZeros_25 : List UInt8 := 172 :: []
abbrev t_Lo_numberOfTrailingZeros_22 : List UInt8 := 184 :: 1 :: 55 :: t_Lo_numberOfTrailingZeros_25
abbrev t_Lo_numberOfTrailingZeros_21 : List UInt8 := 28 :: t_Lo_numberOfTrailingZeros_22
abbrev t_Lo_numberOfTrailingZeros_18 : List UInt8 := 167 :: 0 :: 7 :: t_Lo_numberOfTrailingZeros_21
abbrev t_Lo_numberOfTrailingZeros_17 : List UInt8 := 96 :: t_Lo_numberOfTrailingZeros_18
abbrev t_Lo_numberOfTrailingZeros_14 : List UInt8 := 184 :: 1 :: 55 :: t_Lo_numberOfTrailingZeros_17
abbrev t_Lo_numberOfTrailingZeros_13 : List UInt8 := 136 :: t_Lo_numberOfTrailingZeros_14
abbrev t_Lo_numberOfTrailingZeros_12 : List UInt8 := 125 :: t_Lo_numberOfTrailingZeros_13
abbrev t_Lo_numberOfTrailingZeros_10 : List UInt8 := 16 :: 32 :: t_Lo_numberOfTrailingZeros_12
abbrev t_Lo_numberOfTrailingZeros_9 : List UInt8 := 30 :: t_Lo_numberOfTrailingZeros_10
abbrev t_Lo_numberOfTrailingZeros_7 : List UInt8 := 16 :: 32 :: t_Lo_numberOfTrailingZeros_9
abbrev t_Lo_numberOfTrailingZeros_4 : List UInt8 := 154 :: 0 :: 17 :: t_Lo_numberOfTrailingZeros_7
abbrev t_Lo_numberOfTrailingZeros_3 : List UInt8 := 28 :: t_Lo_numberOfTrailingZeros_4
abbrev t_Lo_numberOfTrailingZeros_2 : List UInt8 := 61 :: t_Lo_numberOfTrailingZeros_3
abbrev t_Lo_numberOfTrailingZeros_1 : List UInt8 := 136 :: t_Lo_numberOfTrailingZeros_2
abbrev t_Lo_numberOfTrailingZeros_0 : List UInt8 := 30 :: t_Lo_numberOfTrailingZeros_1
theorem a_Lo_numberOfTrailingZeros_0 : dk_at b_Lo_numberOfTrailingZeros 0 t_Lo_numberOfTrailingZeros_0 := dk_start (by decide +kernel)
theorem a_Lo_numberOfTrailingZeros_1 : dk_at b_Lo_numberOfTrailingZeros 1 t_Lo_numberOfTrailingZeros_1 := dk_go 1 a_Lo_numberOfTrailingZeros_0 rfl
theorem a_Lo_numberOfTrailingZeros_2 : dk_at b_Lo_numberOfTrailingZeros 2 t_Lo_numberOfTrailingZeros_2 := dk_go 1 a_Lo_numberOfTrailingZeros_1 rfl
theorem a_Lo_numberOfTrailingZeros_3 : dk_at b_Lo_numberOfTrailingZeros 3 t_Lo_numberOfTrailingZeros_3 := dk_go 1 a_Lo_numberOfTrailingZeros_2 rfl
theorem a_Lo_numberOfTrailingZeros_4 : dk_at b_Lo_numberOfTrailingZeros 4 t_Lo_numberOfTrailingZeros_4 := dk_go 1 a_Lo_numberOfTrailingZeros_3 rfl
theorem a_Lo_numberOfTrailingZeros_7 : dk_at b_Lo_numberOfTrailingZeros 7 t_Lo_numberOfTrailingZeros_7 := dk_go 3 a_Lo_numberOfTrailingZeros_4 rfl
theorem a_Lo_numberOfTrailingZeros_9 : dk_at b_Lo_numberOfTrailingZeros 9 t_Lo_numberOfTrailingZeros_9 := dk_go 2 a_Lo_numberOfTrailingZeros_7 rfl
theorem a_Lo_numberOfTrailingZeros_10 : dk_at b_Lo_numberOfTrailingZeros 10 t_Lo_numberOfTrailingZeros_10 := dk_go 1 a_Lo_numberOfTrailingZeros_9 rfl
theorem a_Lo_numberOfTrailingZeros_12 : dk_at b_Lo_numberOfTrailingZeros 12 t_Lo_numberOfTrailingZeros_12 := dk_go 2 a_Lo_numberOfTrailingZeros_10 rfl
theorem a_Lo_numberOfTrailingZeros_13 : dk_at b_Lo_numberOfTrailingZeros 13 t_Lo_numberOfTrailingZeros_13 := dk_go 1 a_Lo_numberOfTrailingZeros_12 rfl
theorem a_Lo_numberOfTrailingZeros_14 : dk_at b_Lo_numberOfTrailingZeros 14 t_Lo_numberOfTrailingZeros_14 := dk_go 1 a_Lo_numberOfTrailingZeros_13 rfl
theorem a_Lo_numberOfTrailingZeros_17 : dk_at b_Lo_numberOfTrailingZeros 17 t_Lo_numberOfTrailingZeros_17 := dk_go 3 a_Lo_numberOfTrailingZeros_14 rfl
theorem a_Lo_numberOfTrailingZeros_18 : dk_at b_Lo_numberOfTrailingZeros 18 t_Lo_numberOfTrailingZeros_18 := dk_go 1 a_Lo_numberOfTrailingZeros_17 rfl
theorem a_Lo_numberOfTrailingZeros_21 : dk_at b_Lo_numberOfTrailingZeros 21 t_Lo_numberOfTrailingZeros_21 := dk_go 3 a_Lo_numberOfTrailingZeros_18 rfl
theorem a_Lo_numberOfTrailingZeros_22 : dk_at b_Lo_numberOfTrailingZeros 22 t_Lo_numberOfTrailingZeros_22 := dk_go 1 a_Lo_numberOfTrailingZeros_21 rfl
theorem a_Lo_numberOfTrailingZeros_25 : dk_at b_Lo_numberOfTrailingZeros 25 t_Lo_numberOfTrailingZeros_25 := dk_go 3 a_Lo_numberOfTrailingZeros_22 rfl
theorem d_Lo_numberOfTrailingZeros_0 : decode b_Lo_numberOfTrailingZeros 0 = .ok (.lload_n 0, 1) := dk_0 a_Lo_numberOfTrailingZeros_0 (dko_30 _)
theorem d_Lo_numberOfTrailingZeros_1 : decode b_Lo_numberOfTrailingZeros 1 = .ok (.l2i, 1) := dk_0 a_Lo_numberOfTrailingZeros_1 (dko_136 _)
theorem d_Lo_numberOfTrailingZeros_2 : decode b_Lo_numberOfTrailingZeros 2 = .ok (.istore_n 2, 1) := dk_0 a_Lo_numberOfTrailingZeros_2 (dko_61 _)
theorem d_Lo_numberOfTrailingZeros_3 : decode b_Lo_numberOfTrailingZeros 3 = .ok (.iload_n 2, 1) := dk_0 a_Lo_numberOfTrailingZeros_3 (dko_28 _)
theorem d_Lo_numberOfTrailingZeros_4 : decode b_Lo_numberOfTrailingZeros 4 = .ok (.ifCond .ne 17, 3) := dk_S2 a_Lo_numberOfTrailingZeros_4 (dko_154 _) (by decide +kernel)
theorem d_Lo_numberOfTrailingZeros_7 : decode b_Lo_numberOfTrailingZeros 7 = .ok (.bipush 32, 2) := dk_S1 a_Lo_numberOfTrailingZeros_7 (dko_16 _) (by decide +kernel)
theorem d_Lo_numberOfTrailingZeros_9 : decode b_Lo_numberOfTrailingZeros 9 = .ok (.lload_n 0, 1) := dk_0 a_Lo_numberOfTrailingZeros_9 (dko_30 _)
theorem d_Lo_numberOfTrailingZeros_10 : decode b_Lo_numberOfTrailingZeros 10 = .ok (.bipush 32, 2) := dk_S1 a_Lo_numberOfTrailingZeros_10 (dko_16 _) (by decide +kernel)
theorem d_Lo_numberOfTrailingZeros_12 : decode b_Lo_numberOfTrailingZeros 12 = .ok (.lushr, 1) := dk_0 a_Lo_numberOfTrailingZeros_12 (dko_125 _)
theorem d_Lo_numberOfTrailingZeros_13 : decode b_Lo_numberOfTrailingZeros 13 = .ok (.l2i, 1) := dk_0 a_Lo_numberOfTrailingZeros_13 (dko_136 _)
theorem d_Lo_numberOfTrailingZeros_14 : decode b_Lo_numberOfTrailingZeros 14 = .ok (.invokestatic 311, 3) := dk_U2 a_Lo_numberOfTrailingZeros_14 (dko_184 _) rfl
theorem d_Lo_numberOfTrailingZeros_17 : decode b_Lo_numberOfTrailingZeros 17 = .ok (.iadd, 1) := dk_0 a_Lo_numberOfTrailingZeros_17 (dko_96 _)
theorem d_Lo_numberOfTrailingZeros_18 : decode b_Lo_numberOfTrailingZeros 18 = .ok (.goto 7, 3) := dk_S2 a_Lo_numberOfTrailingZeros_18 (dko_167 _) (by decide +kernel)
theorem d_Lo_numberOfTrailingZeros_21 : decode b_Lo_numberOfTrailingZeros 21 = .ok (.iload_n 2, 1) := dk_0 a_Lo_numberOfTrailingZeros_21 (dko_28 _)
theorem d_Lo_numberOfTrailingZeros_22 : decode b_Lo_numberOfTrailingZeros 22 = .ok (.invokestatic 311, 3) := dk_U2 a_Lo_numberOfTrailingZeros_22 (dko_184 _) rfl
theorem d_Lo_numberOfTrailingZeros_25 : decode b_Lo_numberOfTrailingZeros 25 = .ok (.ireturn, 1) := dk_0 a_Lo_numberOfTrailingZeros_25 (dko_172 _)
set_option maxHeartbeats 4000000 in
set_option maxRecDepth 100000 in
theorem ok_Lo_numberOfTrailingZeros (pc : Nat) : OpS mt mi_Lo_numberOfTrailingZeros pc (cs_Lo_numberOfTrailingZeros pc) := (os_n (os_n (os_n (os_n (os_l (so_lload_n d_Lo_numberOfTrailingZeros_0 rfl)) (os_l (so_l2i d_Lo_numberOfTrailingZeros_1))) (os_n (os_l (so_istore_n d_Lo_numberOfTrailingZeros_2 rfl (by decide))) (os_l (so_iload_n d_Lo_numberOfTrailingZeros_3 rfl)))) (os_n (os_n (os_l (so_ifne d_Lo_numberOfTrailingZeros_4 (by decide))) (os_l (so_bipush d_Lo_numberOfTrailingZeros_7 (by decide)))) (os_n (os_l (so_lload_n d_Lo_numberOfTrailingZeros_9 rfl)) (os_l (so_bipush d_Lo_numberOfTrailingZeros_10 (by decide)))))) (os_n (os_n (os_n (os_l (so_lushr d_Lo_numberOfTrailingZeros_12)) (os_l (so_l2i d_Lo_numberOfTrailingZeros_13))) (os_n (os_l (so_callS (iv := mi_In_numberOfTrailingZeros) rfl mw_1117 mw_1118 mw_23 mw_1119 ⟨by decide +kernel, by decide +kernel, by decide +kernel⟩ (by decide) d_Lo_numberOfTrailingZeros_14)) (os_l (so_iadd d_Lo_numberOfTrailingZeros_17)))) (os_n (os_n (os_l (so_goto d_Lo_numberOfTrailingZeros_18 (by decide))) (os_l (so_iload_n d_Lo_numberOfTrailingZeros_21 rfl))) (os_n (os_l (so_callS (iv := mi_In_numberOfTrailingZeros) rfl mw_1117 mw_1118 mw_23 mw_1119 ⟨by decide +kernel, by decide +kernel, by decide +kernel⟩ (by decide) d_Lo_numberOfTrailingZeros_22)) (os_l (so_ireturn rfl d_Lo_numberOfTrailingZeros_25))))))
abbrev t_In_numberOfTrailingZeros_79 : List UInt8 := 172 :: []
abbrev t_In_numberOfTrailingZeros_78 : List UInt8 := 96 :: t_In_numberOfTrailingZeros_79
abbrev t_In_numberOfTrailingZeros_77 : List UInt8 := 124 :: t_In_numberOfTrailingZeros_78
abbrev t_In_numberOfTrailingZeros_76 : List UInt8 := 4 :: t_In_numberOfTrailingZeros_77
abbrev t_In_numberOfTrailingZeros_75 : List UInt8 := 26 :: t_In_numberOfTrailingZeros_76
abbrev t_In_numberOfTrailingZeros_74 : List UInt8 := 27 :: t_In_numberOfTrailingZeros_75
abbrev t_In_numberOfTrailingZeros_73 : List UInt8 := 59 :: t_In_numberOfTrailingZeros_74
abbrev t_In_numberOfTrailingZeros_72 : List UInt8 := 124 :: t_In_numberOfTrailingZeros_73
abbrev t_In_numberOfTrailingZeros_71 : List UInt8 := 5 :: t_In_numberOfTrailingZeros_72
abbrev t_In_numberOfTrailingZeros_70 : List UInt8 := 26 :: t_In_numberOfTrailingZeros_71
abbrev t_In_numberOfTrailingZeros_67 : List UInt8 := 132 :: 1 :: 2 :: t_In_numberOfTrailingZeros_70
abbrev t_In_numberOfTrailingZeros_64 : List UInt8 := 164 :: 0 :: 10 :: t_In_numberOfTrailingZeros_67
abbrev t_In_numberOfTrailingZeros_63 : List UInt8 := 7 :: t_In_numberOfTrailingZeros_64
abbrev t_In_numberOfTrailingZeros_62 : List UInt8 := 26 :: t_In_numberOfTrailingZeros_63
abbrev t_In_numberOfTrailingZeros_61 : List UInt8 := 59 :: t_In_numberOfTrailingZeros_62
abbrev t_In_numberOfTrailingZeros_60 : List UInt8 := 124 :: t_In_numberOfTrailingZeros_61
abbrev t_In_numberOfTrailingZeros_59 : List UInt8 := 7 :: t_In_numberOfTrailingZeros_60
abbrev t_In_numberOfTrailingZeros_58 : List UInt8 := 26 :: t_In_numberOfTrailingZeros_59
abbrev t_In_numberOfTrailingZeros_55 : List UInt8 := 132 :: 1 :: 4 :: t_In_numberOfTrailingZeros_58
abbrev t_In_numberOfTrailingZeros_52 : List UInt8 := 164 :: 0 :: 10 :: t_In_numberOfTrailingZeros_55
abbrev t_In_numberOfTrailingZeros_50 : List UInt8 := 16 :: 16 :: t_In_numberOfTrailingZeros_52
abbrev t_In_numberOfTrailingZeros_49 : List UInt8 := 26 :: t_In_numberOfTrailingZeros_50
abbrev t_In_numberOfTrailingZeros_48 : List UInt8 := 59 :: t_In_numberOfTrailingZeros_49
abbrev t_In_numberOfTrailingZeros_47 : List UInt8 := 124 :: t_In_numberOfTrailingZeros_48
abbrev t_In_numberOfTrailingZeros_45 : List UInt8 := 16 :: 8 :: t_In_numberOfTrailingZeros_47
abbrev t_In_numberOfTrailingZeros_44 : List UInt8 := 26 :: t_In_numberOfTrailingZeros_45
abbrev t_In_numberOfTrailingZeros_41 : List UInt8 := 132 :: 1 :: 8 :: t_In_numberOfTrailingZeros_44
abbrev t_In_numberOfTrailingZeros_38 : List UInt8 := 164 :: 0 :: 11 :: t_In_numberOfTrailingZeros_41
abbrev t_In_numberOfTrailingZeros_35 : List UInt8 := 17 :: 1 :: 0 :: t_In_numberOfTrailingZeros_38
abbrev t_In_numberOfTrailingZeros_34 : List UInt8 := 26 :: t_In_numberOfTrailingZeros_35
abbrev t_In_numberOfTrailingZeros_33 : List UInt8 := 59 :: t_In_numberOfTrailingZeros_34
abbrev t_In_numberOfTrailingZeros_32 : List UInt8 := 124 :: t_In_numberOfTrailingZeros_33
abbrev t_In_numberOfTrailingZeros_30 : List UInt8 := 16 :: 16 :: t_In_numberOfTrailingZeros_32
abbrev t_In_numberOfTrailingZeros_29 : List UInt8 := 26 :: t_In_numberOfTrailingZeros_30
abbrev t_In_numberOfTrailingZeros_26 : List UInt8 := 132 :: 1 :: 16 :: t_In_numberOfTrailingZeros_29
abbrev t_In_numberOfTrailingZeros_23 : List UInt8 := 164 :: 0 :: 11 :: t_In_numberOfTrailingZeros_26
abbrev t_In_numberOfTrailingZeros_20 : List UInt8 := 19 :: 1 :: 8 :: t_In_numberOfTrailingZeros_23
abbrev t_In_numberOfTrailingZeros_19 : List UInt8 := 26 :: t_In_numberOfTrailingZeros_20
abbrev t_In_numberOfTrailingZeros_18 : List UInt8 := 60 :: t_In_numberOfTrailingZeros_19
abbrev t_In_numberOfTrailingZeros_17 : List UInt8 := 4 :: t_In_numberOfTrailingZeros_18
abbrev t_In_numberOfTrailingZeros_16 : List UInt8 := 172 :: t_In_numberOfTrailingZeros_17
abbrev t_In_numberOfTrailingZeros_15 : List UInt8 := 126 :: t_In_numberOfTrailingZeros_16
abbrev t_In_numberOfTrailingZeros_13 : List UInt8 := 16 :: 32 :: t_In_numberOfTrailingZeros_15
abbrev t_In_numberOfTrailingZeros_12 : List UInt8 := 26 :: t_In_numberOfTrailingZeros_13
abbrev t_In_numberOfTrailingZeros_9 : List UInt8 := 157 :: 0 :: 8 :: t_In_numberOfTrailingZeros_12
abbrev t_In_numberOfTrailingZeros_8 : List UInt8 := 26 :: t_In_numberOfTrailingZeros_9
abbrev t_In_numberOfTrailingZeros_7 : List UInt8 := 59 :: t_In_numberOfTrailingZeros_8
abbrev t_In_numberOfTrailingZeros_6 : List UInt8 := 126 :: t_In_numberOfTrailingZeros_7
abbrev t_In_numberOfTrailingZeros_5 : List UInt8 := 100 :: t_In_numberOfTrailingZeros_6
abbrev t_In_numberOfTrailingZeros_4 : List UInt8 := 4 :: t_In_numberOfTrailingZeros_5
abbrev t_In_numberOfTrailingZeros_3 : List UInt8 := 26 :: t_In_numberOfTrailingZeros_4
abbrev t_In_numberOfTrailingZeros_2 : List UInt8 := 130 :: t_In_numberOfTrailingZeros_3
abbrev t_In_numberOfTrailingZeros_1 : List UInt8 := 2 :: t_In_numberOfTrailingZeros_2
abbrev t_In_numberOfTrailingZeros_0 : List UInt8 := 26 :: t_In_numberOfTrailingZeros_1
theorem a_In_numberOfTrailingZeros_0 : dk_at b_In_numberOfTrailingZeros 0 t_In_numberOfTrailingZeros_0 := dk_start (by decide +kernel)
theorem a_In_numberOfTrailingZeros_1 : dk_at b_In_numberOfTrailingZeros 1 t_In_numberOfTrailingZeros_1 := dk_go 1 a_In_numberOfTrailingZeros_0 rfl
theorem a_In_numberOfTrailingZeros_2 : dk_at b_In_numberOfTrailingZeros 2 t_In_numberOfTrailingZeros_2 := dk_go 1 a_In_numberOfTrailingZeros_1 rfl
theorem a_In_numberOfTrailingZeros_3 : dk_at b_In_numberOfTrailingZeros 3 t_In_numberOfTrailingZeros_3 := dk_go 1 a_In_numberOfTrailingZeros_2 rfl
theorem a_In_numberOfTrailingZeros_4 : dk_at b_In_numberOfTrailingZeros 4 t_In_numberOfTrailingZeros_4 := dk_go 1 a_In_numberOfTrailingZeros_3 rfl
theorem a_In_numberOfTrailingZeros_5 : dk_at b_In_numberOfTrailingZeros 5 t_In_numberOfTrailingZeros_5 := dk_go 1 a_In_numberOfTrailingZeros_4 rfl
theorem a_In_numberOfTrailingZeros_6 : dk_at b_In_numberOfTrailingZeros 6 t_In_numberOfTrailingZeros_6 := dk_go 1 a_In_numberOfTrailingZeros_5 rfl
theorem a_In_numberOfTrailingZeros_7 : dk_at b_In_numberOfTrailingZeros 7 t_In_numberOfTrailingZeros_7 := dk_go 1 a_In_numberOfTrailingZeros_6 rfl
theorem a_In_numberOfTrailingZeros_8 : dk_at b_In_numberOfTrailingZeros 8 t_In_numberOfTrailingZeros_8 := dk_go 1 a_In_numberOfTrailingZeros_7 rfl
theorem a_In_numberOfTrailingZeros_9 : dk_at b_In_numberOfTrailingZeros 9 t_In_numberOfTrailingZeros_9 := dk_go 1 a_In_numberOfTrailingZeros_8 rfl
theorem a_In_numberOfTrailingZeros_12 : dk_at b_In_numberOfTrailingZeros 12 t_In_numberOfTrailingZeros_12 := dk_go 3 a_In_numberOfTrailingZeros_9 rfl
theorem a_In_numberOfTrailingZeros_13 : dk_at b_In_numberOfTrailingZeros 13 t_In_numberOfTrailingZeros_13 := dk_go 1 a_In_numberOfTrailingZeros_12 rfl
theorem a_In_numberOfTrailingZeros_15 : dk_at b_In_numberOfTrailingZeros 15 t_In_numberOfTrailingZeros_15 := dk_go 2 a_In_numberOfTrailingZeros_13 rfl
theorem a_In_numberOfTrailingZeros_16 : dk_at b_In_numberOfTrailingZeros 16 t_In_numberOfTrailingZeros_16 := dk_go 1 a_In_numberOfTrailingZeros_15 rfl
theorem a_In_numberOfTrailingZeros_17 : dk_at b_In_numberOfTrailingZeros 17 t_In_numberOfTrailingZeros_17 := dk_go 1 a_In_numberOfTrailingZeros_16 rfl
theorem a_In_numberOfTrailingZeros_18 : dk_at b_In_numberOfTrailingZeros 18 t_In_numberOfTrailingZeros_18 := dk_go 1 a_In_numberOfTrailingZeros_17 rfl
theorem a_In_numberOfTrailingZeros_19 : dk_at b_In_numberOfTrailingZeros 19 t_In_numberOfTrailingZeros_19 := dk_go 1 a_In_numberOfTrailingZeros_18 rfl
theorem a_In_numberOfTrailingZeros_20 : dk_at b_In_numberOfTrailingZeros 20 t_In_numberOfTrailingZeros_20 := dk_go 1 a_In_numberOfTrailingZeros_19 rfl
theorem a_In_numberOfTrailingZeros_23 : dk_at b_In_numberOfTrailingZeros 23 t_In_numberOfTrailingZeros_23 := dk_go 3 a_In_numberOfTrailingZeros_20 rfl
theorem a_In_numberOfTrailingZeros_26 : dk_at b_In_numberOfTrailingZeros 26 t_In_numberOfTrailingZeros_26 := dk_go 3 a_In_numberOfTrailingZeros_23 rfl
theorem a_In_numberOfTrailingZeros_29 : dk_at b_In_numberOfTrailingZeros 29 t_In_numberOfTrailingZeros_29 := dk_go 3 a_In_numberOfTrailingZeros_26 rfl
theorem a_In_numberOfTrailingZeros_30 : dk_at b_In_numberOfTrailingZeros 30 t_In_numberOfTrailingZeros_30 := dk_go 1 a_In_numberOfTrailingZeros_29 rfl
theorem a_In_numberOfTrailingZeros_32 : dk_at b_In_numberOfTrailingZeros 32 t_In_numberOfTrailingZeros_32 := dk_go 2 a_In_numberOfTrailingZeros_30 rfl
theorem a_In_numberOfTrailingZeros_33 : dk_at b_In_numberOfTrailingZeros 33 t_In_numberOfTrailingZeros_33 := dk_go 1 a_In_numberOfTrailingZeros_32 rfl
theorem a_In_numberOfTrailingZeros_34 : dk_at b_In_numberOfTrailingZeros 34 t_In_numberOfTrailingZeros_34 := dk_go 1 a_In_numberOfTrailingZeros_33 rfl
theorem a_In_numberOfTrailingZeros_35 : dk_at b_In_numberOfTrailingZeros 35 t_In_numberOfTrailingZeros_35 := dk_go 1 a_In_numberOfTrailingZeros_34 rfl
theorem a_In_numberOfTrailingZeros_38 : dk_at b_In_numberOfTrailingZeros 38 t_In_numberOfTrailingZeros_38 := dk_go 3 a_In_numberOfTrailingZeros_35 rfl
theorem a_In_numberOfTrailingZeros_41 : dk_at b_In_numberOfTrailingZeros 41 t_In_numberOfTrailingZeros_41 := dk_go 3 a_In_numberOfTrailingZeros_38 rfl
theorem a_In_numberOfTrailingZeros_44 : dk_at b_In_numberOfTrailingZeros 44 t_In_numberOfTrailingZeros_44 := dk_go 3 a_In_numberOfTrailingZeros_41 rfl
theorem a_In_numberOfTrailingZeros_45 : dk_at b_In_numberOfTrailingZeros 45 t_In_numberOfTrailingZeros_45 := dk_go 1 a_In_numberOfTrailingZeros_44 rfl
theorem a_In_numberOfTrailingZeros_47 : dk_at b_In_numberOfTrailingZeros 47 t_In_numberOfTrailingZeros_47 := dk_go 2 a_In_numberOfTrailingZeros_45 rfl
theorem a_In_numberOfTrailingZeros_48 : dk_at b_In_numberOfTrailingZeros 48 t_In_numberOfTrailingZeros_48 := dk_go 1 a_In_numberOfTrailingZeros_47 rfl
theorem a_In_numberOfTrailingZeros_49 : dk_at b_In_numberOfTrailingZeros 49 t_In_numberOfTrailingZeros_49 := dk_go 1 a_In_numberOfTrailingZeros_48 rfl
theorem a_In_numberOfTrailingZeros_50 : dk_at b_In_numberOfTrailingZeros 50 t_In_numberOfTrailingZeros_50 := dk_go 1 a_In_numberOfTrailingZeros_49 rfl
theorem a_In_numberOfTrailingZeros_52 : dk_at b_In_numberOfTrailingZeros 52 t_In_numberOfTrailingZeros_52 := dk_go 2 a_In_numberOfTrailingZeros_50 rfl
theorem a_In_numberOfTrailingZeros_55 : dk_at b_In_numberOfTrailingZeros 55 t_In_numberOfTrailingZeros_55 := dk_go 3 a_In_numberOfTrailingZeros_52 rfl
theorem a_In_numberOfTrailingZeros_58 : dk_at b_In_numberOfTrailingZeros 58 t_In_numberOfTrailingZeros_58 := dk_go 3 a_In_numberOfTrailingZeros_55 rfl
theorem a_In_numberOfTrailingZeros_59 : dk_at b_In_numberOfTrailingZeros 59 t_In_numberOfTrailingZeros_59 := dk_go 1 a_In_numberOfTrailingZeros_58 rfl
theorem a_In_numberOfTrailingZeros_60 : dk_at b_In_numberOfTrailingZeros 60 t_In_numberOfTrailingZeros_60 := dk_go 1 a_In_numberOfTrailingZeros_59 rfl
theorem a_In_numberOfTrailingZeros_61 : dk_at b_In_numberOfTrailingZeros 61 t_In_numberOfTrailingZeros_61 := dk_go 1 a_In_numberOfTrailingZeros_60 rfl
theorem a_In_numberOfTrailingZeros_62 : dk_at b_In_numberOfTrailingZeros 62 t_In_numberOfTrailingZeros_62 := dk_go 1 a_In_numberOfTrailingZeros_61 rfl
theorem a_In_numberOfTrailingZeros_63 : dk_at b_In_numberOfTrailingZeros 63 t_In_numberOfTrailingZeros_63 := dk_go 1 a_In_numberOfTrailingZeros_62 rfl
theorem a_In_numberOfTrailingZeros_64 : dk_at b_In_numberOfTrailingZeros 64 t_In_numberOfTrailingZeros_64 := dk_go 1 a_In_numberOfTrailingZeros_63 rfl
theorem a_In_numberOfTrailingZeros_67 : dk_at b_In_numberOfTrailingZeros 67 t_In_numberOfTrailingZeros_67 := dk_go 3 a_In_numberOfTrailingZeros_64 rfl
theorem a_In_numberOfTrailingZeros_70 : dk_at b_In_numberOfTrailingZeros 70 t_In_numberOfTrailingZeros_70 := dk_go 3 a_In_numberOfTrailingZeros_67 rfl
theorem a_In_numberOfTrailingZeros_71 : dk_at b_In_numberOfTrailingZeros 71 t_In_numberOfTrailingZeros_71 := dk_go 1 a_In_numberOfTrailingZeros_70 rfl
theorem a_In_numberOfTrailingZeros_72 : dk_at b_In_numberOfTrailingZeros 72 t_In_numberOfTrailingZeros_72 := dk_go 1 a_In_numberOfTrailingZeros_71 rfl
theorem a_In_numberOfTrailingZeros_73 : dk_at b_In_numberOfTrailingZeros 73 t_In_numberOfTrailingZeros_73 := dk_go 1 a_In_numberOfTrailingZeros_72 rfl
theorem a_In_numberOfTrailingZeros_74 : dk_at b_In_numberOfTrailingZeros 74 t_In_numberOfTrailingZeros_74 := dk_go 1 a_In_numberOfTrailingZeros_73 rfl
theorem a_In_numberOfTrailingZeros_75 : dk_at b_In_numberOfTrailingZeros 75 t_In_numberOfTrailingZeros_75 := dk_go 1 a_In_numberOfTrailingZeros_74 rfl
theorem a_In_numberOfTrailingZeros_76 : dk_at b_In_numberOfTrailingZeros 76 t_In_numberOfTrailingZeros_76 := dk_go 1 a_In_numberOfTrailingZeros_75 rfl
theorem a_In_numberOfTrailingZeros_77 : dk_at b_In_numberOfTrailingZeros 77 t_In_numberOfTrailingZeros_77 := dk_go 1 a_In_numberOfTrailingZeros_76 rfl
theorem a_In_numberOfTrailingZeros_78 : dk_at b_In_numberOfTrailingZeros 78 t_In_numberOfTrailingZeros_78 := dk_go 1 a_In_numberOfTrailingZeros_77 rfl
theorem a_In_numberOfTrailingZeros_79 : dk_at b_In_numberOfTrailingZeros 79 t_In_numberOfTrailingZeros_79 := dk_go 1 a_In_numberOfTrailingZeros_78 rfl
theorem d_In_numberOfTrailingZeros_0 : decode b_In_numberOfTrailingZeros 0 = .ok (.iload_n 0, 1) := dk_0 a_In_numberOfTrailingZeros_0 (dko_26 _)
theorem d_In_numberOfTrailingZeros_1 : decode b_In_numberOfTrailingZeros 1 = .ok (.iconst (-1), 1) := dk_0 a_In_numberOfTrailingZeros_1 (dko_2 _)
theorem d_In_numberOfTrailingZeros_2 : decode b_In_numberOfTrailingZeros 2 = .ok (.ixor, 1) := dk_0 a_In_numberOfTrailingZeros_2 (dko_130 _)
theorem d_In_numberOfTrailingZeros_3 : decode b_In_numberOfTrailingZeros 3 = .ok (.iload_n 0, 1) := dk_0 a_In_numberOfTrailingZeros_3 (dko_26 _)
theorem d_In_numberOfTrailingZeros_4 : decode b_In_numberOfTrailingZeros 4 = .ok (.iconst 1, 1) := dk_0 a_In_numberOfTrailingZeros_4 (dko_4 _)
theorem d_In_numberOfTrailingZeros_5 : decode b_In_numberOfTrailingZeros 5 = .ok (.isub, 1) := dk_0 a_In_numberOfTrailingZeros_5 (dko_100 _)
theorem d_In_numberOfTrailingZeros_6 : decode b_In_numberOfTrailingZeros 6 = .ok (.iand, 1) := dk_0 a_In_numberOfTrailingZeros_6 (dko_126 _)
theorem d_In_numberOfTrailingZeros_7 : decode b_In_numberOfTrailingZeros 7 = .ok (.istore_n 0, 1) := dk_0 a_In_numberOfTrailingZeros_7 (dko_59 _)
theorem d_In_numberOfTrailingZeros_8 : decode b_In_numberOfTrailingZeros 8 = .ok (.iload_n 0, 1) := dk_0 a_In_numberOfTrailingZeros_8 (dko_26 _)
theorem d_In_numberOfTrailingZeros_9 : decode b_In_numberOfTrailingZeros 9 = .ok (.ifCond .gt 8, 3) := dk_S2 a_In_numberOfTrailingZeros_9 (dko_157 _) (by decide +kernel)
theorem d_In_numberOfTrailingZeros_12 : decode b_In_numberOfTrailingZeros 12 = .ok (.iload_n 0, 1) := dk_0 a_In_numberOfTrailingZeros_12 (dko_26 _)
theorem d_In_numberOfTrailingZeros_13 : decode b_In_numberOfTrailingZeros 13 = .ok (.bipush 32, 2) := dk_S1 a_In_numberOfTrailingZeros_13 (dko_16 _) (by decide +kernel)
theorem d_In_numberOfTrailingZeros_15 : decode b_In_numberOfTrailingZeros 15 = .ok (.iand, 1) := dk_0 a_In_numberOfTrailingZeros_15 (dko_126 _)
theorem d_In_numberOfTrailingZeros_16 : decode b_In_numberOfTrailingZeros 16 = .ok (.ireturn, 1) := dk_0 a_In_numberOfTrailingZeros_16 (dko_172 _)
theorem d_In_numberOfTrailingZeros_17 : decode b_In_numberOfTrailingZeros 17 = .ok (.iconst 1, 1) := dk_0 a_In_numberOfTrailingZeros_17 (dko_4 _)
theorem d_In_numberOfTrailingZeros_18 : decode b_In_numberOfTrailingZeros 18 = .ok (.istore_n 1, 1) := dk_0 a_In_numberOfTrailingZeros_18 (dko_60 _)
theorem d_In_numberOfTrailingZeros_19 : decode b_In_numberOfTrailingZeros 19 = .ok (.iload_n 0, 1) := dk_0 a_In_numberOfTrailingZeros_19 (dko_26 _)
theorem d_In_numberOfTrailingZeros_20 : decode b_In_numberOfTrailingZeros 20 = .ok (.ldc_w 264, 3) := dk_U2 a_In_numberOfTrailingZeros_20 (dko_19 _) rfl
theorem d_In_numberOfTrailingZeros_23 : decode b_In_numberOfTrailingZeros 23 = .ok (.if_icmp .le 11, 3) := dk_S2 a_In_numberOfTrailingZeros_23 (dko_164 _) (by decide +kernel)
theorem d_In_numberOfTrailingZeros_26 : decode b_In_numberOfTrailingZeros 26 = .ok (.iinc 1 16, 3) := dk_US a_In_numberOfTrailingZeros_26 (dko_132 _) (by decide +kernel)
theorem d_In_numberOfTrailingZeros_29 : decode b_In_numberOfTrailingZeros 29 = .ok (.iload_n 0, 1) := dk_0 a_In_numberOfTrailingZeros_29 (dko_26 _)
theorem d_In_numberOfTrailingZeros_30 : decode b_In_numberOfTrailingZeros 30 = .ok (.bipush 16, 2) := dk_S1 a_In_numberOfTrailingZeros_30 (dko_16 _) (by decide +kernel)
theorem d_In_numberOfTrailingZeros_32 : decode b_In_numberOfTrailingZeros 32 = .ok (.iushr, 1) := dk_0 a_In_numberOfTrailingZeros_32 (dko_124 _)
theorem d_In_numberOfTrailingZeros_33 : decode b_In_numberOfTrailingZeros 33 = .ok (.istore_n 0, 1) := dk_0 a_In_numberOfTrailingZeros_33 (dko_59 _)
theorem d_In_numberOfTrailingZeros_34 : decode b_In_numberOfTrailingZeros 34 = .ok (.iload_n 0, 1) := dk_0 a_In_numberOfTrailingZeros_34 (dko_26 _)
theorem d_In_numberOfTrailingZeros_35 : decode b_In_numberOfTrailingZeros 35 = .ok (.sipush 256, 3) := dk_S2 a_In_numberOfTrailingZeros_35 (dko_17 _) (by decide +kernel)
theorem d_In_numberOfTrailingZeros_38 : decode b_In_numberOfTrailingZeros 38 = .ok (.if_icmp .le 11, 3) := dk_S2 a_In_numberOfTrailingZeros_38 (dko_164 _) (by decide +kernel)
theorem d_In_numberOfTrailingZeros_41 : decode b_In_numberOfTrailingZeros 41 = .ok (.iinc 1 8, 3) := dk_US a_In_numberOfTrailingZeros_41 (dko_132 _) (by decide +kernel)
theorem d_In_numberOfTrailingZeros_44 : decode b_In_numberOfTrailingZeros 44 = .ok (.iload_n 0, 1) := dk_0 a_In_numberOfTrailingZeros_44 (dko_26 _)
theorem d_In_numberOfTrailingZeros_45 : decode b_In_numberOfTrailingZeros 45 = .ok (.bipush 8, 2) := dk_S1 a_In_numberOfTrailingZeros_45 (dko_16 _) (by decide +kernel)
theorem d_In_numberOfTrailingZeros_47 : decode b_In_numberOfTrailingZeros 47 = .ok (.iushr, 1) := dk_0 a_In_numberOfTrailingZeros_47 (dko_124 _)
theorem d_In_numberOfTrailingZeros_48 : decode b_In_numberOfTrailingZeros 48 = .ok (.istore_n 0, 1) := dk_0 a_In_numberOfTrailingZeros_48 (dko_59 _)
theorem d_In_numberOfTrailingZeros_49 : decode b_In_numberOfTrailingZeros 49 = .ok (.iload_n 0, 1) := dk_0 a_In_numberOfTrailingZeros_49 (dko_26 _)
theorem d_In_numberOfTrailingZeros_50 : decode b_In_numberOfTrailingZeros 50 = .ok (.bipush 16, 2) := dk_S1 a_In_numberOfTrailingZeros_50 (dko_16 _) (by decide +kernel)
theorem d_In_numberOfTrailingZeros_52 : decode b_In_numberOfTrailingZeros 52 = .ok (.if_icmp .le 10, 3) := dk_S2 a_In_numberOfTrailingZeros_52 (dko_164 _) (by decide +kernel)
theorem d_In_numberOfTrailingZeros_55 : decode b_In_numberOfTrailingZeros 55 = .ok (.iinc 1 4, 3) := dk_US a_In_numberOfTrailingZeros_55 (dko_132 _) (by decide +kernel)
theorem d_In_numberOfTrailingZeros_58 : decode b_In_numberOfTrailingZeros 58 = .ok (.iload_n 0, 1) := dk_0 a_In_numberOfTrailingZeros_58 (dko_26 _)
theorem d_In_numberOfTrailingZeros_59 : decode b_In_numberOfTrailingZeros 59 = .ok (.iconst 4, 1) := dk_0 a_In_numberOfTrailingZeros_59 (dko_7 _)
theorem d_In_numberOfTrailingZeros_60 : decode b_In_numberOfTrailingZeros 60 = .ok (.iushr, 1) := dk_0 a_In_numberOfTrailingZeros_60 (dko_124 _)
theorem d_In_numberOfTrailingZeros_61 : decode b_In_numberOfTrailingZeros 61 = .ok (.istore_n 0, 1) := dk_0 a_In_numberOfTrailingZeros_61 (dko_59 _)
theorem d_In_numberOfTrailingZeros_62 : decode b_In_numberOfTrailingZeros 62 = .ok (.iload_n 0, 1) := dk_0 a_In_numberOfTrailingZeros_62 (dko_26 _)
theorem d_In_numberOfTrailingZeros_63 : decode b_In_numberOfTrailingZeros 63 = .ok (.iconst 4, 1) := dk_0 a_In_numberOfTrailingZeros_63 (dko_7 _)
theorem d_In_numberOfTrailingZeros_64 : decode b_In_numberOfTrailingZeros 64 = .ok (.if_icmp .le 10, 3) := dk_S2 a_In_numberOfTrailingZeros_64 (dko_164 _) (by decide +kernel)
theorem d_In_numberOfTrailingZeros_67 : decode b_In_numberOfTrailingZeros 67 = .ok (.iinc 1 2, 3) := dk_US a_In_numberOfTrailingZeros_67 (dko_132 _) (by decide +kernel)
theorem d_In_numberOfTrailingZeros_70 : decode b_In_numberOfTrailingZeros 70 = .ok (.iload_n 0, 1) := dk_0 a_In_numberOfTrailingZeros_70 (dko_26 _)
theorem d_In_numberOfTrailingZeros_71 : decode b_In_numberOfTrailingZeros 71 = .ok (.iconst 2, 1) := dk_0 a_In_numberOfTrailingZeros_71 (dko_5 _)
theorem d_In_numberOfTrailingZeros_72 : decode b_In_numberOfTrailingZeros 72 = .ok (.iushr, 1) := dk_0 a_In_numberOfTrailingZeros_72 (dko_124 _)
theorem d_In_numberOfTrailingZeros_73 : decode b_In_numberOfTrailingZeros 73 = .ok (.istore_n 0, 1) := dk_0 a_In_numberOfTrailingZeros_73 (dko_59 _)
theorem d_In_numberOfTrailingZeros_74 : decode b_In_numberOfTrailingZeros 74 = .ok (.iload_n 1, 1) := dk_0 a_In_numberOfTrailingZeros_74 (dko_27 _)
theorem d_In_numberOfTrailingZeros_75 : decode b_In_numberOfTrailingZeros 75 = .ok (.iload_n 0, 1) := dk_0 a_In_numberOfTrailingZeros_75 (dko_26 _)
theorem d_In_numberOfTrailingZeros_76 : decode b_In_numberOfTrailingZeros 76 = .ok (.iconst 1, 1) := dk_0 a_In_numberOfTrailingZeros_76 (dko_4 _)
theorem d_In_numberOfTrailingZeros_77 : decode b_In_numberOfTrailingZeros 77 = .ok (.iushr, 1) := dk_0 a_In_numberOfTrailingZeros_77 (dko_124 _)
theorem d_In_numberOfTrailingZeros_78 : decode b_In_numberOfTrailingZeros 78 = .ok (.iadd, 1) := dk_0 a_In_numberOfTrailingZeros_78 (dko_96 _)
theorem d_In_numberOfTrailingZeros_79 : decode b_In_numberOfTrailingZeros 79 = .ok (.ireturn, 1) := dk_0 a_In_numberOfTrailingZeros_79 (dko_172 _)
set_option maxHeartbeats 4000000 in
set_option maxRecDepth 100000 in
theorem ok_In_numberOfTrailingZeros (pc : Nat) : OpS mt mi_In_numberOfTrailingZeros pc (cs_In_numberOfTrailingZeros pc) := (os_n (os_n (os_n (os_n (os_n (os_l (so_iload_n d_In_numberOfTrailingZeros_0 rfl)) (os_n (os_l (so_iconst d_In_numberOfTrailingZeros_1 (by decide))) (os_l (so_ixor d_In_numberOfTrailingZeros_2)))) (os_n (os_l (so_iload_n d_In_numberOfTrailingZeros_3 rfl)) (os_n (os_l (so_iconst d_In_numberOfTrailingZeros_4 (by decide))) (os_l (so_isub d_In_numberOfTrailingZeros_5))))) (os_n (os_n (os_l (so_iand d_In_numberOfTrailingZeros_6)) (os_n (os_l (so_istore_n d_In_numberOfTrailingZeros_7 rfl (by decide))) (os_l (so_iload_n d_In_numberOfTrailingZeros_8 rfl)))) (os_n (os_n (os_l (so_ifgt d_In_numberOfTrailingZeros_9 (by decide))) (os_l (so_iload_n d_In_numberOfTrailingZeros_12 rfl))) (os_n (os_l (so_bipush d_In_numberOfTrailingZeros_13 (by decide))) (os_l (so_iand d_In_numberOfTrailingZeros_15)))))) (os_n (os_n (os_n (os_l (so_ireturn rfl d_In_numberOfTrailingZeros_16)) (os_n (os_l (so_iconst d_In_numberOfTrailingZeros_17 (by decide))) (os_l (so_istore_n d_In_numberOfTrailingZeros_18 rfl (by decide))))) (os_n (os_n (os_l (so_iload_n d_In_numberOfTrailingZeros_19 rfl)) (os_l (so_ldcw mw_1120 d_In_numberOfTrailingZeros_20))) (os_n (os_l (so_icle d_In_numberOfTrailingZeros_23 (by decide))) (os_l (so_iinc d_In_numberOfTrailingZeros_26 (by decide) (by decide)))))) (os_n (os_n (os_l (so_iload_n d_In_numberOfTrailingZeros_29 rfl)) (os_n (os_l (so_bipush d_In_numberOfTrailingZeros_30 (by decide))) (os_l (so_iushr d_In_numberOfTrailingZeros_32)))) (os_n (os_n (os_l (so_istore_n d_In_numberOfTrailingZeros_33 rfl (by decide))) (os_l (so_iload_n d_In_numberOfTrailingZeros_34 rfl))) (os_n (os_l (so_sipush d_In_numberOfTrailingZeros_35 (by decide))) (os_l (so_icle d_In_numberOfTrailingZeros_38 (by decide)))))))) (os_n (os_n (os_n (os_n (os_l (so_iinc d_In_numberOfTrailingZeros_41 (by decide) (by decide))) (os_n (os_l (so_iload_n d_In_numberOfTrailingZeros_44 rfl)) (os_l (so_bipush d_In_numberOfTrailingZeros_45 (by decide))))) (os_n (os_l (so_iushr d_In_numberOfTrailingZeros_47)) (os_n (os_l (so_istore_n d_In_numberOfTrailingZeros_48 rfl (by decide))) (os_l (so_iload_n d_In_numberOfTrailingZeros_49 rfl))))) (os_n (os_n (os_l (so_bipush d_In_numberOfTrailingZeros_50 (by decide))) (os_n (os_l (so_icle d_In_numberOfTrailingZeros_52 (by decide))) (os_l (so_iinc d_In_numberOfTrailingZeros_55 (by decide) (by decide))))) (os_n (os_n (os_l (so_iload_n d_In_numberOfTrailingZeros_58 rfl)) (os_l (so_iconst d_In_numberOfTrailingZeros_59 (by decide)))) (os_n (os_l (so_iushr d_In_numberOfTrailingZeros_60)) (os_l (so_istore_n d_In_numberOfTrailingZeros_61 rfl (by decide))))))) (os_n (os_n (os_n (os_l (so_iload_n d_In_numberOfTrailingZeros_62 rfl)) (os_n (os_l (so_iconst d_In_numberOfTrailingZeros_63 (by decide))) (os_l (so_icle d_In_numberOfTrailingZeros_64 (by decide))))) (os_n (os_n (os_l (so_iinc d_In_numberOfTrailingZeros_67 (by decide) (by decide))) (os_l (so_iload_n d_In_numberOfTrailingZeros_70 rfl))) (os_n (os_l (so_iconst d_In_numberOfTrailingZeros_71 (by decide))) (os_l (so_iushr d_In_numberOfTrailingZeros_72))))) (os_n (os_n (os_l (so_istore_n d_In_numberOfTrailingZeros_73 rfl (by decide))) (os_n (os_l (so_iload_n d_In_numberOfTrailingZeros_74 rfl)) (os_l (so_iload_n d_In_numberOfTrailingZeros_75 rfl)))) (os_n (os_n (os_l (so_iconst d_In_numberOfTrailingZeros_76 (by decide))) (os_l (so_iushr d_In_numberOfTrailingZeros_77))) (os_n (os_l (so_iadd d_In_numberOfTrailingZeros_78)) (os_l (so_ireturn rfl d_In_numberOfTrailingZeros_79))))))))
abbrev t_Ar_fill0_20 : List UInt8 := 177 :: []
abbrev t_Ar_fill0_17 : List UInt8 := 167 :: 255 :: 244 :: t_Ar_fill0_20
abbrev t_Ar_fill0_14 : List UInt8 := 132 :: 2 :: 1 :: t_Ar_fill0_17
abbrev t_Ar_fill0_13 : List UInt8 := 79 :: t_Ar_fill0_14
abbrev t_Ar_fill0_12 : List UInt8 := 27 :: t_Ar_fill0_13
abbrev t_Ar_fill0_11 : List UInt8 := 28 :: t_Ar_fill0_12
abbrev t_Ar_fill0_10 : List UInt8 := 42 :: t_Ar_fill0_11
abbrev t_Ar_fill0_7 : List UInt8 := 162 :: 0 :: 13 :: t_Ar_fill0_10
abbrev t_Ar_fill0_6 : List UInt8 := 29 :: t_Ar_fill0_7
abbrev t_Ar_fill0_5 : List UInt8 := 28 :: t_Ar_fill0_6
abbrev t_Ar_fill0_4 : List UInt8 := 62 :: t_Ar_fill0_5
abbrev t_Ar_fill0_3 : List UInt8 := 190 :: t_Ar_fill0_4
abbrev t_Ar_fill0_2 : List UInt8 := 42 :: t_Ar_fill0_3
abbrev t_Ar_fill0_1 : List UInt8 := 61 :: t_Ar_fill0_2
abbrev t_Ar_fill0_0 : List UInt8 := 3 :: t_Ar_fill0_1
theorem a_Ar_fill0_0 : dk_at b_Ar_fill0 0 t_Ar_fill0_0 := dk_start (by decide +kernel)
theorem a_Ar_fill0_1 : dk_at b_Ar_fill0 1 t_Ar_fill0_1 := dk_go 1 a_Ar_fill0_0 rfl
theorem a_Ar_fill0_2 : dk_at b_Ar_fill0 2 t_Ar_fill0_2 := dk_go 1 a_Ar_fill0_1 rfl
theorem a_Ar_fill0_3 : dk_at b_Ar_fill0 3 t_Ar_fill0_3 := dk_go 1 a_Ar_fill0_2 rfl
theorem a_Ar_fill0_4 : dk_at b_Ar_fill0 4 t_Ar_fill0_4 := dk_go 1 a_Ar_fill0_3 rfl
theorem a_Ar_fill0_5 : dk_at b_Ar_fill0 5 t_Ar_fill0_5 := dk_go 1 a_Ar_fill0_4 rfl
theorem a_Ar_fill0_6 : dk_at b_Ar_fill0 6 t_Ar_fill0_6 := dk_go 1 a_Ar_fill0_5 rfl
theorem a_Ar_fill0_7 : dk_at b_Ar_fill0 7 t_Ar_fill0_7 := dk_go 1 a_Ar_fill0_6 rfl
theorem a_Ar_fill0_10 : dk_at b_Ar_fill0 10 t_Ar_fill0_10 := dk_go 3 a_Ar_fill0_7 rfl
theorem a_Ar_fill0_11 : dk_at b_Ar_fill0 11 t_Ar_fill0_11 := dk_go 1 a_Ar_fill0_10 rfl
theorem a_Ar_fill0_12 : dk_at b_Ar_fill0 12 t_Ar_fill0_12 := dk_go 1 a_Ar_fill0_11 rfl
theorem a_Ar_fill0_13 : dk_at b_Ar_fill0 13 t_Ar_fill0_13 := dk_go 1 a_Ar_fill0_12 rfl
theorem a_Ar_fill0_14 : dk_at b_Ar_fill0 14 t_Ar_fill0_14 := dk_go 1 a_Ar_fill0_13 rfl
theorem a_Ar_fill0_17 : dk_at b_Ar_fill0 17 t_Ar_fill0_17 := dk_go 3 a_Ar_fill0_14 rfl
theorem a_Ar_fill0_20 : dk_at b_Ar_fill0 20 t_Ar_fill0_20 := dk_go 3 a_Ar_fill0_17 rfl
theorem d_Ar_fill0_0 : decode b_Ar_fill0 0 = .ok (.iconst 0, 1) := dk_0 a_Ar_fill0_0 (dko_3 _)
theorem d_Ar_fill0_1 : decode b_Ar_fill0 1 = .ok (.istore_n 2, 1) := dk_0 a_Ar_fill0_1 (dko_61 _)
theorem d_Ar_fill0_2 : decode b_Ar_fill0 2 = .ok (.aload_n 0, 1) := dk_0 a_Ar_fill0_2 (dko_42 _)
theorem d_Ar_fill0_3 : decode b_Ar_fill0 3 = .ok (.arraylength, 1) := dk_0 a_Ar_fill0_3 (dko_190 _)
theorem d_Ar_fill0_4 : decode b_Ar_fill0 4 = .ok (.istore_n 3, 1) := dk_0 a_Ar_fill0_4 (dko_62 _)
theorem d_Ar_fill0_5 : decode b_Ar_fill0 5 = .ok (.iload_n 2, 1) := dk_0 a_Ar_fill0_5 (dko_28 _)
theorem d_Ar_fill0_6 : decode b_Ar_fill0 6 = .ok (.iload_n 3, 1) := dk_0 a_Ar_fill0_6 (dko_29 _)
theorem d_Ar_fill0_7 : decode b_Ar_fill0 7 = .ok (.if_icmp .ge 13, 3) := dk_S2 a_Ar_fill0_7 (dko_162 _) (by decide +kernel)
theorem d_Ar_fill0_10 : decode b_Ar_fill0 10 = .ok (.aload_n 0, 1) := dk_0 a_Ar_fill0_10 (dko_42 _)
theorem d_Ar_fill0_11 : decode b_Ar_fill0 11 = .ok (.iload_n 2, 1) := dk_0 a_Ar_fill0_11 (dko_28 _)
theorem d_Ar_fill0_12 : decode b_Ar_fill0 12 = .ok (.iload_n 1, 1) := dk_0 a_Ar_fill0_12 (dko_27 _)
theorem d_Ar_fill0_13 : decode b_Ar_fill0 13 = .ok (.iastore, 1) := dk_0 a_Ar_fill0_13 (dko_79 _)
theorem d_Ar_fill0_14 : decode b_Ar_fill0 14 = .ok (.iinc 2 1, 3) := dk_US a_Ar_fill0_14 (dko_132 _) (by decide +kernel)
theorem d_Ar_fill0_17 : decode b_Ar_fill0 17 = .ok (.goto (-12), 3) := dk_S2 a_Ar_fill0_17 (dko_167 _) (by decide +kernel)
theorem d_Ar_fill0_20 : decode b_Ar_fill0 20 = .ok (.return_, 1) := dk_0 a_Ar_fill0_20 (dko_177 _)
set_option maxHeartbeats 4000000 in
set_option maxRecDepth 100000 in
theorem ok_Ar_fill0 (pc : Nat) : OpS mt mi_Ar_fill0 pc (cs_Ar_fill0 pc) := (os_n (os_n (os_n (os_l (so_iconst d_Ar_fill0_0 (by decide))) (os_n (os_l (so_istore_n d_Ar_fill0_1 rfl (by decide))) (os_l (so_aload_n d_Ar_fill0_2 rfl)))) (os_n (os_n (os_l (so_alen d_Ar_fill0_3)) (os_l (so_istore_n d_Ar_fill0_4 rfl (by decide)))) (os_n (os_l (so_iload_n d_Ar_fill0_5 rfl)) (os_l (so_iload_n d_Ar_fill0_6 rfl))))) (os_n (os_n (os_n (os_l (so_icge d_Ar_fill0_7 (by decide))) (os_l (so_aload_n d_Ar_fill0_10 rfl))) (os_n (os_l (so_iload_n d_Ar_fill0_11 rfl)) (os_l (so_iload_n d_Ar_fill0_12 rfl)))) (os_n (os_n (os_l (so_iastore d_Ar_fill0_13)) (os_l (so_iinc d_Ar_fill0_14 (by decide) (by decide)))) (os_n (os_l (so_goto d_Ar_fill0_17 (by decide))) (os_l (so_return rfl d_Ar_fill0_20))))))
abbrev t_Ar_fill1_22 : List UInt8 := 177 :: []
abbrev t_Ar_fill1_19 : List UInt8 := 167 :: 255 :: 243 :: t_Ar_fill1_22
abbrev t_Ar_fill1_16 : List UInt8 := 132 :: 3 :: 1 :: t_Ar_fill1_19
abbrev t_Ar_fill1_15 : List UInt8 := 80 :: t_Ar_fill1_16
abbrev t_Ar_fill1_14 : List UInt8 := 31 :: t_Ar_fill1_15
abbrev t_Ar_fill1_13 : List UInt8 := 29 :: t_Ar_fill1_14
abbrev t_Ar_fill1_12 : List UInt8 := 42 :: t_Ar_fill1_13
abbrev t_Ar_fill1_9 : List UInt8 := 162 :: 0 :: 13 :: t_Ar_fill1_12
abbrev t_Ar_fill1_7 : List UInt8 := 21 :: 4 :: t_Ar_fill1_9
abbrev t_Ar_fill1_6 : List UInt8 := 29 :: t_Ar_fill1_7
abbrev t_Ar_fill1_4 : List UInt8 := 54 :: 4 :: t_Ar_fill1_6
abbrev t_Ar_fill1_3 : List UInt8 := 190 :: t_Ar_fill1_4
abbrev t_Ar_fill1_2 : List UInt8 := 42 :: t_Ar_fill1_3
abbrev t_Ar_fill1_1 : List UInt8 := 62 :: t_Ar_fill1_2
abbrev t_Ar_fill1_0 : List UInt8 := 3 :: t_Ar_fill1_1
theorem a_Ar_fill1_0 : dk_at b_Ar_fill1 0 t_Ar_fill1_0 := dk_start (by decide +kernel)
theorem a_Ar_fill1_1 : dk_at b_Ar_fill1 1 t_Ar_fill1_1 := dk_go 1 a_Ar_fill1_0 rfl
theorem a_Ar_fill1_2 : dk_at b_Ar_fill1 2 t_Ar_fill1_2 := dk_go 1 a_Ar_fill1_1 rfl
theorem a_Ar_fill1_3 : dk_at b_Ar_fill1 3 t_Ar_fill1_3 := dk_go 1 a_Ar_fill1_2 rfl
theorem a_Ar_fill1_4 : dk_at b_Ar_fill1 4 t_Ar_fill1_4 := dk_go 1 a_Ar_fill1_3 rfl
theorem a_Ar_fill1_6 : dk_at b_Ar_fill1 6 t_Ar_fill1_6 := dk_go 2 a_Ar_fill1_4 rfl
theorem a_Ar_fill1_7 : dk_at b_Ar_fill1 7 t_Ar_fill1_7 := dk_go 1 a_Ar_fill1_6 rfl
theorem a_Ar_fill1_9 : dk_at b_Ar_fill1 9 t_Ar_fill1_9 := dk_go 2 a_Ar_fill1_7 rfl
theorem a_Ar_fill1_12 : dk_at b_Ar_fill1 12 t_Ar_fill1_12 := dk_go 3 a_Ar_fill1_9 rfl
theorem a_Ar_fill1_13 : dk_at b_Ar_fill1 13 t_Ar_fill1_13 := dk_go 1 a_Ar_fill1_12 rfl
theorem a_Ar_fill1_14 : dk_at b_Ar_fill1 14 t_Ar_fill1_14 := dk_go 1 a_Ar_fill1_13 rfl
theorem a_Ar_fill1_15 : dk_at b_Ar_fill1 15 t_Ar_fill1_15 := dk_go 1 a_Ar_fill1_14 rfl
theorem a_Ar_fill1_16 : dk_at b_Ar_fill1 16 t_Ar_fill1_16 := dk_go 1 a_Ar_fill1_15 rfl
theorem a_Ar_fill1_19 : dk_at b_Ar_fill1 19 t_Ar_fill1_19 := dk_go 3 a_Ar_fill1_16 rfl
theorem a_Ar_fill1_22 : dk_at b_Ar_fill1 22 t_Ar_fill1_22 := dk_go 3 a_Ar_fill1_19 rfl
theorem d_Ar_fill1_0 : decode b_Ar_fill1 0 = .ok (.iconst 0, 1) := dk_0 a_Ar_fill1_0 (dko_3 _)
theorem d_Ar_fill1_1 : decode b_Ar_fill1 1 = .ok (.istore_n 3, 1) := dk_0 a_Ar_fill1_1 (dko_62 _)
theorem d_Ar_fill1_2 : decode b_Ar_fill1 2 = .ok (.aload_n 0, 1) := dk_0 a_Ar_fill1_2 (dko_42 _)
theorem d_Ar_fill1_3 : decode b_Ar_fill1 3 = .ok (.arraylength, 1) := dk_0 a_Ar_fill1_3 (dko_190 _)
theorem d_Ar_fill1_4 : decode b_Ar_fill1 4 = .ok (.istore 4, 2) := dk_U1 a_Ar_fill1_4 (dko_54 _) rfl
theorem d_Ar_fill1_6 : decode b_Ar_fill1 6 = .ok (.iload_n 3, 1) := dk_0 a_Ar_fill1_6 (dko_29 _)
theorem d_Ar_fill1_7 : decode b_Ar_fill1 7 = .ok (.iload 4, 2) := dk_U1 a_Ar_fill1_7 (dko_21 _) rfl
theorem d_Ar_fill1_9 : decode b_Ar_fill1 9 = .ok (.if_icmp .ge 13, 3) := dk_S2 a_Ar_fill1_9 (dko_162 _) (by decide +kernel)
theorem d_Ar_fill1_12 : decode b_Ar_fill1 12 = .ok (.aload_n 0, 1) := dk_0 a_Ar_fill1_12 (dko_42 _)
theorem d_Ar_fill1_13 : decode b_Ar_fill1 13 = .ok (.iload_n 3, 1) := dk_0 a_Ar_fill1_13 (dko_29 _)
theorem d_Ar_fill1_14 : decode b_Ar_fill1 14 = .ok (.lload_n 1, 1) := dk_0 a_Ar_fill1_14 (dko_31 _)
theorem d_Ar_fill1_15 : decode b_Ar_fill1 15 = .ok (.lastore, 1) := dk_0 a_Ar_fill1_15 (dko_80 _)
theorem d_Ar_fill1_16 : decode b_Ar_fill1 16 = .ok (.iinc 3 1, 3) := dk_US a_Ar_fill1_16 (dko_132 _) (by decide +kernel)
theorem d_Ar_fill1_19 : decode b_Ar_fill1 19 = .ok (.goto (-13), 3) := dk_S2 a_Ar_fill1_19 (dko_167 _) (by decide +kernel)
theorem d_Ar_fill1_22 : decode b_Ar_fill1 22 = .ok (.return_, 1) := dk_0 a_Ar_fill1_22 (dko_177 _)
set_option maxHeartbeats 4000000 in
set_option maxRecDepth 100000 in
theorem ok_Ar_fill1 (pc : Nat) : OpS mt mi_Ar_fill1 pc (cs_Ar_fill1 pc) := (os_n (os_n (os_n (os_l (so_iconst d_Ar_fill1_0 (by decide))) (os_n (os_l (so_istore_n d_Ar_fill1_1 rfl (by decide))) (os_l (so_aload_n d_Ar_fill1_2 rfl)))) (os_n (os_n (os_l (so_alen d_Ar_fill1_3)) (os_l (so_istore d_Ar_fill1_4 (by decide)))) (os_n (os_l (so_iload_n d_Ar_fill1_6 rfl)) (os_l (so_iload d_Ar_fill1_7))))) (os_n (os_n (os_n (os_l (so_icge d_Ar_fill1_9 (by decide))) (os_l (so_aload_n d_Ar_fill1_12 rfl))) (os_n (os_l (so_iload_n d_Ar_fill1_13 rfl)) (os_l (so_lload_n d_Ar_fill1_14 rfl)))) (os_n (os_n (os_l (so_lastore d_Ar_fill1_15)) (os_l (so_iinc d_Ar_fill1_16 (by decide) (by decide)))) (os_n (os_l (so_goto d_Ar_fill1_19 (by decide))) (os_l (so_return rfl d_Ar_fill1_22))))))
