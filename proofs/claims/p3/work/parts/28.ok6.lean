abbrev t_Ro_put_32 : List UInt8 := 177 :: []
abbrev t_Ro_put_29 : List UInt8 := 181 :: 0 :: 61 :: t_Ro_put_32
abbrev t_Ro_put_28 : List UInt8 := 96 :: t_Ro_put_29
abbrev t_Ro_put_27 : List UInt8 := 4 :: t_Ro_put_28
abbrev t_Ro_put_24 : List UInt8 := 180 :: 0 :: 61 :: t_Ro_put_27
abbrev t_Ro_put_23 : List UInt8 := 89 :: t_Ro_put_24
abbrev t_Ro_put_22 : List UInt8 := 42 :: t_Ro_put_23
abbrev t_Ro_put_21 : List UInt8 := 79 :: t_Ro_put_22
abbrev t_Ro_put_20 : List UInt8 := 27 :: t_Ro_put_21
abbrev t_Ro_put_17 : List UInt8 := 180 :: 0 :: 61 :: t_Ro_put_20
abbrev t_Ro_put_16 : List UInt8 := 42 :: t_Ro_put_17
abbrev t_Ro_put_13 : List UInt8 := 180 :: 0 :: 34 :: t_Ro_put_16
abbrev t_Ro_put_12 : List UInt8 := 42 :: t_Ro_put_13
abbrev t_Ro_put_9 : List UInt8 := 162 :: 0 :: 23 :: t_Ro_put_12
abbrev t_Ro_put_8 : List UInt8 := 190 :: t_Ro_put_9
abbrev t_Ro_put_5 : List UInt8 := 180 :: 0 :: 34 :: t_Ro_put_8
abbrev t_Ro_put_4 : List UInt8 := 42 :: t_Ro_put_5
abbrev t_Ro_put_1 : List UInt8 := 180 :: 0 :: 61 :: t_Ro_put_4
abbrev t_Ro_put_0 : List UInt8 := 42 :: t_Ro_put_1
theorem a_Ro_put_0 : dk_at b_Ro_put 0 t_Ro_put_0 := dk_start (by decide +kernel)
theorem a_Ro_put_1 : dk_at b_Ro_put 1 t_Ro_put_1 := dk_go 1 a_Ro_put_0 rfl
theorem a_Ro_put_4 : dk_at b_Ro_put 4 t_Ro_put_4 := dk_go 3 a_Ro_put_1 rfl
theorem a_Ro_put_5 : dk_at b_Ro_put 5 t_Ro_put_5 := dk_go 1 a_Ro_put_4 rfl
theorem a_Ro_put_8 : dk_at b_Ro_put 8 t_Ro_put_8 := dk_go 3 a_Ro_put_5 rfl
theorem a_Ro_put_9 : dk_at b_Ro_put 9 t_Ro_put_9 := dk_go 1 a_Ro_put_8 rfl
theorem a_Ro_put_12 : dk_at b_Ro_put 12 t_Ro_put_12 := dk_go 3 a_Ro_put_9 rfl
theorem a_Ro_put_13 : dk_at b_Ro_put 13 t_Ro_put_13 := dk_go 1 a_Ro_put_12 rfl
theorem a_Ro_put_16 : dk_at b_Ro_put 16 t_Ro_put_16 := dk_go 3 a_Ro_put_13 rfl
theorem a_Ro_put_17 : dk_at b_Ro_put 17 t_Ro_put_17 := dk_go 1 a_Ro_put_16 rfl
theorem a_Ro_put_20 : dk_at b_Ro_put 20 t_Ro_put_20 := dk_go 3 a_Ro_put_17 rfl
theorem a_Ro_put_21 : dk_at b_Ro_put 21 t_Ro_put_21 := dk_go 1 a_Ro_put_20 rfl
theorem a_Ro_put_22 : dk_at b_Ro_put 22 t_Ro_put_22 := dk_go 1 a_Ro_put_21 rfl
theorem a_Ro_put_23 : dk_at b_Ro_put 23 t_Ro_put_23 := dk_go 1 a_Ro_put_22 rfl
theorem a_Ro_put_24 : dk_at b_Ro_put 24 t_Ro_put_24 := dk_go 1 a_Ro_put_23 rfl
theorem a_Ro_put_27 : dk_at b_Ro_put 27 t_Ro_put_27 := dk_go 3 a_Ro_put_24 rfl
theorem a_Ro_put_28 : dk_at b_Ro_put 28 t_Ro_put_28 := dk_go 1 a_Ro_put_27 rfl
theorem a_Ro_put_29 : dk_at b_Ro_put 29 t_Ro_put_29 := dk_go 1 a_Ro_put_28 rfl
theorem a_Ro_put_32 : dk_at b_Ro_put 32 t_Ro_put_32 := dk_go 3 a_Ro_put_29 rfl
theorem d_Ro_put_0 : decode b_Ro_put 0 = .ok (.aload_n 0, 1) := dk_0 a_Ro_put_0 (dko_42 _)
theorem d_Ro_put_1 : decode b_Ro_put 1 = .ok (.getfield 61, 3) := dk_U2 a_Ro_put_1 (dko_180 _) rfl
theorem d_Ro_put_4 : decode b_Ro_put 4 = .ok (.aload_n 0, 1) := dk_0 a_Ro_put_4 (dko_42 _)
theorem d_Ro_put_5 : decode b_Ro_put 5 = .ok (.getfield 34, 3) := dk_U2 a_Ro_put_5 (dko_180 _) rfl
theorem d_Ro_put_8 : decode b_Ro_put 8 = .ok (.arraylength, 1) := dk_0 a_Ro_put_8 (dko_190 _)
theorem d_Ro_put_9 : decode b_Ro_put 9 = .ok (.if_icmp .ge 23, 3) := dk_S2 a_Ro_put_9 (dko_162 _) (by decide +kernel)
theorem d_Ro_put_12 : decode b_Ro_put 12 = .ok (.aload_n 0, 1) := dk_0 a_Ro_put_12 (dko_42 _)
theorem d_Ro_put_13 : decode b_Ro_put 13 = .ok (.getfield 34, 3) := dk_U2 a_Ro_put_13 (dko_180 _) rfl
theorem d_Ro_put_16 : decode b_Ro_put 16 = .ok (.aload_n 0, 1) := dk_0 a_Ro_put_16 (dko_42 _)
theorem d_Ro_put_17 : decode b_Ro_put 17 = .ok (.getfield 61, 3) := dk_U2 a_Ro_put_17 (dko_180 _) rfl
theorem d_Ro_put_20 : decode b_Ro_put 20 = .ok (.iload_n 1, 1) := dk_0 a_Ro_put_20 (dko_27 _)
theorem d_Ro_put_21 : decode b_Ro_put 21 = .ok (.iastore, 1) := dk_0 a_Ro_put_21 (dko_79 _)
theorem d_Ro_put_22 : decode b_Ro_put 22 = .ok (.aload_n 0, 1) := dk_0 a_Ro_put_22 (dko_42 _)
theorem d_Ro_put_23 : decode b_Ro_put 23 = .ok (.dup, 1) := dk_0 a_Ro_put_23 (dko_89 _)
theorem d_Ro_put_24 : decode b_Ro_put 24 = .ok (.getfield 61, 3) := dk_U2 a_Ro_put_24 (dko_180 _) rfl
theorem d_Ro_put_27 : decode b_Ro_put 27 = .ok (.iconst 1, 1) := dk_0 a_Ro_put_27 (dko_4 _)
theorem d_Ro_put_28 : decode b_Ro_put 28 = .ok (.iadd, 1) := dk_0 a_Ro_put_28 (dko_96 _)
theorem d_Ro_put_29 : decode b_Ro_put 29 = .ok (.putfield 61, 3) := dk_U2 a_Ro_put_29 (dko_181 _) rfl
theorem d_Ro_put_32 : decode b_Ro_put 32 = .ok (.return_, 1) := dk_0 a_Ro_put_32 (dko_177 _)
set_option maxHeartbeats 4000000 in
set_option maxRecDepth 100000 in
theorem ok_Ro_put (pc : Nat) : OpS mt mi_Ro_put pc (cs_Ro_put pc) := (os_n (os_n (os_n (os_n (os_l (so_aload_n d_Ro_put_0 rfl)) (os_l (so_get (C := R_Ro) (T := F_Ro) (N := 18) (j := 10) in_Ro rfl (by decide) mw_344 d_Ro_put_1))) (os_n (os_l (so_aload_n d_Ro_put_4 rfl)) (os_l (so_get (C := R_Ro) (T := F_Ro) (N := 18) (j := 9) in_Ro rfl (by decide) mw_343 d_Ro_put_5)))) (os_n (os_n (os_l (so_alen d_Ro_put_8)) (os_l (so_icge d_Ro_put_9 (by decide)))) (os_n (os_l (so_aload_n d_Ro_put_12 rfl)) (os_n (os_l (so_get (C := R_Ro) (T := F_Ro) (N := 18) (j := 9) in_Ro rfl (by decide) mw_343 d_Ro_put_13)) (os_l (so_aload_n d_Ro_put_16 rfl)))))) (os_n (os_n (os_n (os_l (so_get (C := R_Ro) (T := F_Ro) (N := 18) (j := 10) in_Ro rfl (by decide) mw_344 d_Ro_put_17)) (os_l (so_iload_n d_Ro_put_20 rfl))) (os_n (os_l (so_iastore d_Ro_put_21)) (os_n (os_l (so_aload_n d_Ro_put_22 rfl)) (os_l (so_dup d_Ro_put_23))))) (os_n (os_n (os_l (so_get (C := R_Ro) (T := F_Ro) (N := 18) (j := 10) in_Ro rfl (by decide) mw_344 d_Ro_put_24)) (os_l (so_iconst d_Ro_put_27 (by decide)))) (os_n (os_l (so_iadd d_Ro_put_28)) (os_n (os_l (so_putI (C := R_Ro) (T := F_Ro) (N := 18) (j := 10) in_Ro t_Ro_ok n_Ro rfl (by decide) mw_344 rfl (by decide +kernel) d_Ro_put_29)) (os_l (so_return rfl d_Ro_put_32)))))))
abbrev t_Ru_isAlive_20 : List UInt8 := 172 :: []
abbrev t_Ru_isAlive_19 : List UInt8 := 3 :: t_Ru_isAlive_20
abbrev t_Ru_isAlive_16 : List UInt8 := 167 :: 0 :: 4 :: t_Ru_isAlive_19
abbrev t_Ru_isAlive_15 : List UInt8 := 4 :: t_Ru_isAlive_16
abbrev t_Ru_isAlive_12 : List UInt8 := 160 :: 0 :: 7 :: t_Ru_isAlive_15
abbrev t_Ru_isAlive_11 : List UInt8 := 5 :: t_Ru_isAlive_12
abbrev t_Ru_isAlive_8 : List UInt8 := 180 :: 0 :: 18 :: t_Ru_isAlive_11
abbrev t_Ru_isAlive_7 : List UInt8 := 42 :: t_Ru_isAlive_8
abbrev t_Ru_isAlive_4 : List UInt8 := 153 :: 0 :: 11 :: t_Ru_isAlive_7
abbrev t_Ru_isAlive_1 : List UInt8 := 180 :: 0 :: 18 :: t_Ru_isAlive_4
abbrev t_Ru_isAlive_0 : List UInt8 := 42 :: t_Ru_isAlive_1
theorem a_Ru_isAlive_0 : dk_at b_Ru_isAlive 0 t_Ru_isAlive_0 := dk_start (by decide +kernel)
theorem a_Ru_isAlive_1 : dk_at b_Ru_isAlive 1 t_Ru_isAlive_1 := dk_go 1 a_Ru_isAlive_0 rfl
theorem a_Ru_isAlive_4 : dk_at b_Ru_isAlive 4 t_Ru_isAlive_4 := dk_go 3 a_Ru_isAlive_1 rfl
theorem a_Ru_isAlive_7 : dk_at b_Ru_isAlive 7 t_Ru_isAlive_7 := dk_go 3 a_Ru_isAlive_4 rfl
theorem a_Ru_isAlive_8 : dk_at b_Ru_isAlive 8 t_Ru_isAlive_8 := dk_go 1 a_Ru_isAlive_7 rfl
theorem a_Ru_isAlive_11 : dk_at b_Ru_isAlive 11 t_Ru_isAlive_11 := dk_go 3 a_Ru_isAlive_8 rfl
theorem a_Ru_isAlive_12 : dk_at b_Ru_isAlive 12 t_Ru_isAlive_12 := dk_go 1 a_Ru_isAlive_11 rfl
theorem a_Ru_isAlive_15 : dk_at b_Ru_isAlive 15 t_Ru_isAlive_15 := dk_go 3 a_Ru_isAlive_12 rfl
theorem a_Ru_isAlive_16 : dk_at b_Ru_isAlive 16 t_Ru_isAlive_16 := dk_go 1 a_Ru_isAlive_15 rfl
theorem a_Ru_isAlive_19 : dk_at b_Ru_isAlive 19 t_Ru_isAlive_19 := dk_go 3 a_Ru_isAlive_16 rfl
theorem a_Ru_isAlive_20 : dk_at b_Ru_isAlive 20 t_Ru_isAlive_20 := dk_go 1 a_Ru_isAlive_19 rfl
theorem d_Ru_isAlive_0 : decode b_Ru_isAlive 0 = .ok (.aload_n 0, 1) := dk_0 a_Ru_isAlive_0 (dko_42 _)
theorem d_Ru_isAlive_1 : decode b_Ru_isAlive 1 = .ok (.getfield 18, 3) := dk_U2 a_Ru_isAlive_1 (dko_180 _) rfl
theorem d_Ru_isAlive_4 : decode b_Ru_isAlive 4 = .ok (.ifCond .eq 11, 3) := dk_S2 a_Ru_isAlive_4 (dko_153 _) (by decide +kernel)
theorem d_Ru_isAlive_7 : decode b_Ru_isAlive 7 = .ok (.aload_n 0, 1) := dk_0 a_Ru_isAlive_7 (dko_42 _)
theorem d_Ru_isAlive_8 : decode b_Ru_isAlive 8 = .ok (.getfield 18, 3) := dk_U2 a_Ru_isAlive_8 (dko_180 _) rfl
theorem d_Ru_isAlive_11 : decode b_Ru_isAlive 11 = .ok (.iconst 2, 1) := dk_0 a_Ru_isAlive_11 (dko_5 _)
theorem d_Ru_isAlive_12 : decode b_Ru_isAlive 12 = .ok (.if_icmp .ne 7, 3) := dk_S2 a_Ru_isAlive_12 (dko_160 _) (by decide +kernel)
theorem d_Ru_isAlive_15 : decode b_Ru_isAlive 15 = .ok (.iconst 1, 1) := dk_0 a_Ru_isAlive_15 (dko_4 _)
theorem d_Ru_isAlive_16 : decode b_Ru_isAlive 16 = .ok (.goto 4, 3) := dk_S2 a_Ru_isAlive_16 (dko_167 _) (by decide +kernel)
theorem d_Ru_isAlive_19 : decode b_Ru_isAlive 19 = .ok (.iconst 0, 1) := dk_0 a_Ru_isAlive_19 (dko_3 _)
theorem d_Ru_isAlive_20 : decode b_Ru_isAlive 20 = .ok (.ireturn, 1) := dk_0 a_Ru_isAlive_20 (dko_172 _)
set_option maxHeartbeats 4000000 in
set_option maxRecDepth 100000 in
theorem ok_Ru_isAlive (pc : Nat) : OpS mt mi_Ru_isAlive pc (cs_Ru_isAlive pc) := (os_n (os_n (os_n (os_l (so_aload_n d_Ru_isAlive_0 rfl)) (os_l (so_get (C := R_Ru) (T := F_Ru) (N := 21) (j := 4) in_Ru rfl (by decide) mw_516 d_Ru_isAlive_1))) (os_n (os_l (so_ifeq d_Ru_isAlive_4 (by decide))) (os_n (os_l (so_aload_n d_Ru_isAlive_7 rfl)) (os_l (so_get (C := R_Ru) (T := F_Ru) (N := 21) (j := 4) in_Ru rfl (by decide) mw_516 d_Ru_isAlive_8))))) (os_n (os_n (os_l (so_iconst d_Ru_isAlive_11 (by decide))) (os_n (os_l (so_icne d_Ru_isAlive_12 (by decide))) (os_l (so_iconst d_Ru_isAlive_15 (by decide))))) (os_n (os_l (so_goto d_Ru_isAlive_16 (by decide))) (os_n (os_l (so_iconst d_Ru_isAlive_19 (by decide))) (os_l (so_zreturn rfl d_Ru_isAlive_20))))))
abbrev t_Ru_take_47 : List UInt8 := 177 :: []
abbrev t_Ru_take_46 : List UInt8 := 79 :: t_Ru_take_47
abbrev t_Ru_take_45 : List UInt8 := 2 :: t_Ru_take_46
abbrev t_Ru_take_44 : List UInt8 := 3 :: t_Ru_take_45
abbrev t_Ru_take_41 : List UInt8 := 180 :: 0 :: 29 :: t_Ru_take_44
abbrev t_Ru_take_40 : List UInt8 := 42 :: t_Ru_take_41
abbrev t_Ru_take_39 : List UInt8 := 79 :: t_Ru_take_40
abbrev t_Ru_take_36 : List UInt8 := 182 :: 0 :: 72 :: t_Ru_take_39
abbrev t_Ru_take_35 : List UInt8 := 3 :: t_Ru_take_36
abbrev t_Ru_take_32 : List UInt8 := 180 :: 0 :: 69 :: t_Ru_take_35
abbrev t_Ru_take_29 : List UInt8 := 180 :: 0 :: 12 :: t_Ru_take_32
abbrev t_Ru_take_28 : List UInt8 := 42 :: t_Ru_take_29
abbrev t_Ru_take_27 : List UInt8 := 42 :: t_Ru_take_28
abbrev t_Ru_take_26 : List UInt8 := 3 :: t_Ru_take_27
abbrev t_Ru_take_23 : List UInt8 := 180 :: 0 :: 26 :: t_Ru_take_26
abbrev t_Ru_take_22 : List UInt8 := 42 :: t_Ru_take_23
abbrev t_Ru_take_21 : List UInt8 := 79 :: t_Ru_take_22
abbrev t_Ru_take_20 : List UInt8 := 2 :: t_Ru_take_21
abbrev t_Ru_take_19 : List UInt8 := 3 :: t_Ru_take_20
abbrev t_Ru_take_16 : List UInt8 := 180 :: 0 :: 22 :: t_Ru_take_19
abbrev t_Ru_take_15 : List UInt8 := 42 :: t_Ru_take_16
abbrev t_Ru_take_12 : List UInt8 := 181 :: 0 :: 66 :: t_Ru_take_15
abbrev t_Ru_take_11 : List UInt8 := 4 :: t_Ru_take_12
abbrev t_Ru_take_10 : List UInt8 := 42 :: t_Ru_take_11
abbrev t_Ru_take_7 : List UInt8 := 181 :: 0 :: 18 :: t_Ru_take_10
abbrev t_Ru_take_6 : List UInt8 := 7 :: t_Ru_take_7
abbrev t_Ru_take_5 : List UInt8 := 42 :: t_Ru_take_6
abbrev t_Ru_take_2 : List UInt8 := 181 :: 0 :: 12 :: t_Ru_take_5
abbrev t_Ru_take_1 : List UInt8 := 43 :: t_Ru_take_2
abbrev t_Ru_take_0 : List UInt8 := 42 :: t_Ru_take_1
theorem a_Ru_take_0 : dk_at b_Ru_take 0 t_Ru_take_0 := dk_start (by decide +kernel)
theorem a_Ru_take_1 : dk_at b_Ru_take 1 t_Ru_take_1 := dk_go 1 a_Ru_take_0 rfl
theorem a_Ru_take_2 : dk_at b_Ru_take 2 t_Ru_take_2 := dk_go 1 a_Ru_take_1 rfl
theorem a_Ru_take_5 : dk_at b_Ru_take 5 t_Ru_take_5 := dk_go 3 a_Ru_take_2 rfl
theorem a_Ru_take_6 : dk_at b_Ru_take 6 t_Ru_take_6 := dk_go 1 a_Ru_take_5 rfl
theorem a_Ru_take_7 : dk_at b_Ru_take 7 t_Ru_take_7 := dk_go 1 a_Ru_take_6 rfl
theorem a_Ru_take_10 : dk_at b_Ru_take 10 t_Ru_take_10 := dk_go 3 a_Ru_take_7 rfl
theorem a_Ru_take_11 : dk_at b_Ru_take 11 t_Ru_take_11 := dk_go 1 a_Ru_take_10 rfl
theorem a_Ru_take_12 : dk_at b_Ru_take 12 t_Ru_take_12 := dk_go 1 a_Ru_take_11 rfl
theorem a_Ru_take_15 : dk_at b_Ru_take 15 t_Ru_take_15 := dk_go 3 a_Ru_take_12 rfl
theorem a_Ru_take_16 : dk_at b_Ru_take 16 t_Ru_take_16 := dk_go 1 a_Ru_take_15 rfl
theorem a_Ru_take_19 : dk_at b_Ru_take 19 t_Ru_take_19 := dk_go 3 a_Ru_take_16 rfl
theorem a_Ru_take_20 : dk_at b_Ru_take 20 t_Ru_take_20 := dk_go 1 a_Ru_take_19 rfl
theorem a_Ru_take_21 : dk_at b_Ru_take 21 t_Ru_take_21 := dk_go 1 a_Ru_take_20 rfl
theorem a_Ru_take_22 : dk_at b_Ru_take 22 t_Ru_take_22 := dk_go 1 a_Ru_take_21 rfl
theorem a_Ru_take_23 : dk_at b_Ru_take 23 t_Ru_take_23 := dk_go 1 a_Ru_take_22 rfl
theorem a_Ru_take_26 : dk_at b_Ru_take 26 t_Ru_take_26 := dk_go 3 a_Ru_take_23 rfl
theorem a_Ru_take_27 : dk_at b_Ru_take 27 t_Ru_take_27 := dk_go 1 a_Ru_take_26 rfl
theorem a_Ru_take_28 : dk_at b_Ru_take 28 t_Ru_take_28 := dk_go 1 a_Ru_take_27 rfl
theorem a_Ru_take_29 : dk_at b_Ru_take 29 t_Ru_take_29 := dk_go 1 a_Ru_take_28 rfl
theorem a_Ru_take_32 : dk_at b_Ru_take 32 t_Ru_take_32 := dk_go 3 a_Ru_take_29 rfl
theorem a_Ru_take_35 : dk_at b_Ru_take 35 t_Ru_take_35 := dk_go 3 a_Ru_take_32 rfl
theorem a_Ru_take_36 : dk_at b_Ru_take 36 t_Ru_take_36 := dk_go 1 a_Ru_take_35 rfl
theorem a_Ru_take_39 : dk_at b_Ru_take 39 t_Ru_take_39 := dk_go 3 a_Ru_take_36 rfl
theorem a_Ru_take_40 : dk_at b_Ru_take 40 t_Ru_take_40 := dk_go 1 a_Ru_take_39 rfl
theorem a_Ru_take_41 : dk_at b_Ru_take 41 t_Ru_take_41 := dk_go 1 a_Ru_take_40 rfl
theorem a_Ru_take_44 : dk_at b_Ru_take 44 t_Ru_take_44 := dk_go 3 a_Ru_take_41 rfl
theorem a_Ru_take_45 : dk_at b_Ru_take 45 t_Ru_take_45 := dk_go 1 a_Ru_take_44 rfl
theorem a_Ru_take_46 : dk_at b_Ru_take 46 t_Ru_take_46 := dk_go 1 a_Ru_take_45 rfl
theorem a_Ru_take_47 : dk_at b_Ru_take 47 t_Ru_take_47 := dk_go 1 a_Ru_take_46 rfl
theorem d_Ru_take_0 : decode b_Ru_take 0 = .ok (.aload_n 0, 1) := dk_0 a_Ru_take_0 (dko_42 _)
theorem d_Ru_take_1 : decode b_Ru_take 1 = .ok (.aload_n 1, 1) := dk_0 a_Ru_take_1 (dko_43 _)
theorem d_Ru_take_2 : decode b_Ru_take 2 = .ok (.putfield 12, 3) := dk_U2 a_Ru_take_2 (dko_181 _) rfl
theorem d_Ru_take_5 : decode b_Ru_take 5 = .ok (.aload_n 0, 1) := dk_0 a_Ru_take_5 (dko_42 _)
theorem d_Ru_take_6 : decode b_Ru_take 6 = .ok (.iconst 4, 1) := dk_0 a_Ru_take_6 (dko_7 _)
theorem d_Ru_take_7 : decode b_Ru_take 7 = .ok (.putfield 18, 3) := dk_U2 a_Ru_take_7 (dko_181 _) rfl
theorem d_Ru_take_10 : decode b_Ru_take 10 = .ok (.aload_n 0, 1) := dk_0 a_Ru_take_10 (dko_42 _)
theorem d_Ru_take_11 : decode b_Ru_take 11 = .ok (.iconst 1, 1) := dk_0 a_Ru_take_11 (dko_4 _)
theorem d_Ru_take_12 : decode b_Ru_take 12 = .ok (.putfield 66, 3) := dk_U2 a_Ru_take_12 (dko_181 _) rfl
theorem d_Ru_take_15 : decode b_Ru_take 15 = .ok (.aload_n 0, 1) := dk_0 a_Ru_take_15 (dko_42 _)
theorem d_Ru_take_16 : decode b_Ru_take 16 = .ok (.getfield 22, 3) := dk_U2 a_Ru_take_16 (dko_180 _) rfl
theorem d_Ru_take_19 : decode b_Ru_take 19 = .ok (.iconst 0, 1) := dk_0 a_Ru_take_19 (dko_3 _)
theorem d_Ru_take_20 : decode b_Ru_take 20 = .ok (.iconst (-1), 1) := dk_0 a_Ru_take_20 (dko_2 _)
theorem d_Ru_take_21 : decode b_Ru_take 21 = .ok (.iastore, 1) := dk_0 a_Ru_take_21 (dko_79 _)
theorem d_Ru_take_22 : decode b_Ru_take 22 = .ok (.aload_n 0, 1) := dk_0 a_Ru_take_22 (dko_42 _)
theorem d_Ru_take_23 : decode b_Ru_take 23 = .ok (.getfield 26, 3) := dk_U2 a_Ru_take_23 (dko_180 _) rfl
theorem d_Ru_take_26 : decode b_Ru_take 26 = .ok (.iconst 0, 1) := dk_0 a_Ru_take_26 (dko_3 _)
theorem d_Ru_take_27 : decode b_Ru_take 27 = .ok (.aload_n 0, 1) := dk_0 a_Ru_take_27 (dko_42 _)
theorem d_Ru_take_28 : decode b_Ru_take 28 = .ok (.aload_n 0, 1) := dk_0 a_Ru_take_28 (dko_42 _)
theorem d_Ru_take_29 : decode b_Ru_take 29 = .ok (.getfield 12, 3) := dk_U2 a_Ru_take_29 (dko_180 _) rfl
theorem d_Ru_take_32 : decode b_Ru_take 32 = .ok (.getfield 69, 3) := dk_U2 a_Ru_take_32 (dko_180 _) rfl
theorem d_Ru_take_35 : decode b_Ru_take 35 = .ok (.iconst 0, 1) := dk_0 a_Ru_take_35 (dko_3 _)
theorem d_Ru_take_36 : decode b_Ru_take 36 = .ok (.invokevirtual 72, 3) := dk_U2 a_Ru_take_36 (dko_182 _) rfl
theorem d_Ru_take_39 : decode b_Ru_take 39 = .ok (.iastore, 1) := dk_0 a_Ru_take_39 (dko_79 _)
theorem d_Ru_take_40 : decode b_Ru_take 40 = .ok (.aload_n 0, 1) := dk_0 a_Ru_take_40 (dko_42 _)
theorem d_Ru_take_41 : decode b_Ru_take 41 = .ok (.getfield 29, 3) := dk_U2 a_Ru_take_41 (dko_180 _) rfl
theorem d_Ru_take_44 : decode b_Ru_take 44 = .ok (.iconst 0, 1) := dk_0 a_Ru_take_44 (dko_3 _)
theorem d_Ru_take_45 : decode b_Ru_take 45 = .ok (.iconst (-1), 1) := dk_0 a_Ru_take_45 (dko_2 _)
theorem d_Ru_take_46 : decode b_Ru_take 46 = .ok (.iastore, 1) := dk_0 a_Ru_take_46 (dko_79 _)
theorem d_Ru_take_47 : decode b_Ru_take 47 = .ok (.return_, 1) := dk_0 a_Ru_take_47 (dko_177 _)
set_option maxHeartbeats 4000000 in
set_option maxRecDepth 100000 in
theorem ok_Ru_take (pc : Nat) : OpS mt mi_Ru_take pc (cs_Ru_take pc) := (os_n (os_n (os_n (os_n (os_l (so_aload_n d_Ru_take_0 rfl)) (os_n (os_l (so_aload_n d_Ru_take_1 rfl)) (os_l (so_putR (D := "BreweryHouse$Program") (C := R_Ru) (T := F_Ru) (N := 21) (j := 3) in_Ru t_Ru_ok n_Ru rfl (by decide) mw_514 rfl (by decide +kernel) d_Ru_take_2)))) (os_n (os_n (os_l (so_aload_n d_Ru_take_5 rfl)) (os_l (so_iconst d_Ru_take_6 (by decide)))) (os_n (os_l (so_putI (C := R_Ru) (T := F_Ru) (N := 21) (j := 4) in_Ru t_Ru_ok n_Ru rfl (by decide) mw_516 rfl (by decide +kernel) d_Ru_take_7)) (os_l (so_aload_n d_Ru_take_10 rfl))))) (os_n (os_n (os_n (os_l (so_iconst d_Ru_take_11 (by decide))) (os_l (so_putI (C := R_Ru) (T := F_Ru) (N := 21) (j := 5) in_Ru t_Ru_ok n_Ru rfl (by decide) mw_518 rfl (by decide +kernel) d_Ru_take_12))) (os_n (os_l (so_aload_n d_Ru_take_15 rfl)) (os_l (so_get (C := R_Ru) (T := F_Ru) (N := 21) (j := 6) in_Ru rfl (by decide) mw_519 d_Ru_take_16)))) (os_n (os_n (os_l (so_iconst d_Ru_take_19 (by decide))) (os_l (so_iconst d_Ru_take_20 (by decide)))) (os_n (os_l (so_iastore d_Ru_take_21)) (os_l (so_aload_n d_Ru_take_22 rfl)))))) (os_n (os_n (os_n (os_l (so_get (C := R_Ru) (T := F_Ru) (N := 21) (j := 7) in_Ru rfl (by decide) mw_520 d_Ru_take_23)) (os_n (os_l (so_iconst d_Ru_take_26 (by decide))) (os_l (so_aload_n d_Ru_take_27 rfl)))) (os_n (os_n (os_l (so_aload_n d_Ru_take_28 rfl)) (os_l (so_get (C := R_Ru) (T := F_Ru) (N := 21) (j := 3) in_Ru rfl (by decide) mw_514 d_Ru_take_29))) (os_n (os_l (so_get (C := R_Pr) (T := F_Pr) (N := 18) (j := 2) in_Pr rfl (by decide) mw_435 d_Ru_take_32)) (os_l (so_iconst d_Ru_take_35 (by decide)))))) (os_n (os_n (os_n (os_l (so_callV (iv := mi_Ru_expandAll) rfl rfl rfl mw_1055 mw_1057 sl_45 mw_11 mw_1058 ⟨by decide +kernel, by decide +kernel, by decide +kernel⟩ (by decide) d_Ru_take_36)) (os_l (so_iastore d_Ru_take_39))) (os_n (os_l (so_aload_n d_Ru_take_40 rfl)) (os_l (so_get (C := R_Ru) (T := F_Ru) (N := 21) (j := 8) in_Ru rfl (by decide) mw_521 d_Ru_take_41)))) (os_n (os_n (os_l (so_iconst d_Ru_take_44 (by decide))) (os_l (so_iconst d_Ru_take_45 (by decide)))) (os_n (os_l (so_iastore d_Ru_take_46)) (os_l (so_return rfl d_Ru_take_47)))))))
abbrev t_Ru_expandAll_139 : List UInt8 := 172 :: []
abbrev t_Ru_expandAll_138 : List UInt8 := 29 :: t_Ru_expandAll_139
abbrev t_Ru_expandAll_135 : List UInt8 := 167 :: 255 :: 132 :: t_Ru_expandAll_138
abbrev t_Ru_expandAll_132 : List UInt8 := 132 :: 6 :: 1 :: t_Ru_expandAll_135
abbrev t_Ru_expandAll_130 : List UInt8 := 54 :: 5 :: t_Ru_expandAll_132
abbrev t_Ru_expandAll_129 : List UInt8 := 46 :: t_Ru_expandAll_130
abbrev t_Ru_expandAll_127 : List UInt8 := 21 :: 5 :: t_Ru_expandAll_129
abbrev t_Ru_expandAll_124 : List UInt8 := 180 :: 0 :: 80 :: t_Ru_expandAll_127
abbrev t_Ru_expandAll_121 : List UInt8 := 180 :: 0 :: 12 :: t_Ru_expandAll_124
abbrev t_Ru_expandAll_120 : List UInt8 := 42 :: t_Ru_expandAll_121
abbrev t_Ru_expandAll_119 : List UInt8 := 79 :: t_Ru_expandAll_120
abbrev t_Ru_expandAll_116 : List UInt8 := 182 :: 0 :: 72 :: t_Ru_expandAll_119
abbrev t_Ru_expandAll_115 : List UInt8 := 96 :: t_Ru_expandAll_116
abbrev t_Ru_expandAll_114 : List UInt8 := 4 :: t_Ru_expandAll_115
abbrev t_Ru_expandAll_113 : List UInt8 := 28 :: t_Ru_expandAll_114
abbrev t_Ru_expandAll_110 : List UInt8 := 182 :: 0 :: 76 :: t_Ru_expandAll_113
abbrev t_Ru_expandAll_108 : List UInt8 := 21 :: 5 :: t_Ru_expandAll_110
abbrev t_Ru_expandAll_105 : List UInt8 := 180 :: 0 :: 12 :: t_Ru_expandAll_108
abbrev t_Ru_expandAll_104 : List UInt8 := 42 :: t_Ru_expandAll_105
abbrev t_Ru_expandAll_103 : List UInt8 := 42 :: t_Ru_expandAll_104
abbrev t_Ru_expandAll_101 : List UInt8 := 21 :: 7 :: t_Ru_expandAll_103
abbrev t_Ru_expandAll_98 : List UInt8 := 180 :: 0 :: 26 :: t_Ru_expandAll_101
abbrev t_Ru_expandAll_97 : List UInt8 := 42 :: t_Ru_expandAll_98
abbrev t_Ru_expandAll_95 : List UInt8 := 54 :: 4 :: t_Ru_expandAll_97
abbrev t_Ru_expandAll_93 : List UInt8 := 21 :: 7 :: t_Ru_expandAll_95
abbrev t_Ru_expandAll_92 : List UInt8 := 79 :: t_Ru_expandAll_93
abbrev t_Ru_expandAll_90 : List UInt8 := 21 :: 7 :: t_Ru_expandAll_92
abbrev t_Ru_expandAll_88 : List UInt8 := 21 :: 4 :: t_Ru_expandAll_90
abbrev t_Ru_expandAll_85 : List UInt8 := 180 :: 0 :: 29 :: t_Ru_expandAll_88
abbrev t_Ru_expandAll_84 : List UInt8 := 42 :: t_Ru_expandAll_85
abbrev t_Ru_expandAll_81 : List UInt8 := 167 :: 0 :: 12 :: t_Ru_expandAll_84
abbrev t_Ru_expandAll_80 : List UInt8 := 62 :: t_Ru_expandAll_81
abbrev t_Ru_expandAll_78 : List UInt8 := 21 :: 7 :: t_Ru_expandAll_80
abbrev t_Ru_expandAll_75 : List UInt8 := 156 :: 0 :: 9 :: t_Ru_expandAll_78
abbrev t_Ru_expandAll_73 : List UInt8 := 21 :: 4 :: t_Ru_expandAll_75
abbrev t_Ru_expandAll_72 : List UInt8 := 79 :: t_Ru_expandAll_73
abbrev t_Ru_expandAll_71 : List UInt8 := 2 :: t_Ru_expandAll_72
abbrev t_Ru_expandAll_69 : List UInt8 := 21 :: 7 :: t_Ru_expandAll_71
abbrev t_Ru_expandAll_66 : List UInt8 := 180 :: 0 :: 29 :: t_Ru_expandAll_69
abbrev t_Ru_expandAll_65 : List UInt8 := 42 :: t_Ru_expandAll_66
abbrev t_Ru_expandAll_64 : List UInt8 := 79 :: t_Ru_expandAll_65
abbrev t_Ru_expandAll_62 : List UInt8 := 21 :: 5 :: t_Ru_expandAll_64
abbrev t_Ru_expandAll_60 : List UInt8 := 21 :: 7 :: t_Ru_expandAll_62
abbrev t_Ru_expandAll_57 : List UInt8 := 180 :: 0 :: 22 :: t_Ru_expandAll_60
abbrev t_Ru_expandAll_56 : List UInt8 := 42 :: t_Ru_expandAll_57
abbrev t_Ru_expandAll_53 : List UInt8 := 181 :: 0 :: 66 :: t_Ru_expandAll_56
abbrev t_Ru_expandAll_52 : List UInt8 := 96 :: t_Ru_expandAll_53
abbrev t_Ru_expandAll_51 : List UInt8 := 4 :: t_Ru_expandAll_52
abbrev t_Ru_expandAll_48 : List UInt8 := 180 :: 0 :: 66 :: t_Ru_expandAll_51
abbrev t_Ru_expandAll_47 : List UInt8 := 89 :: t_Ru_expandAll_48
abbrev t_Ru_expandAll_46 : List UInt8 := 42 :: t_Ru_expandAll_47
abbrev t_Ru_expandAll_44 : List UInt8 := 54 :: 7 :: t_Ru_expandAll_46
abbrev t_Ru_expandAll_41 : List UInt8 := 180 :: 0 :: 66 :: t_Ru_expandAll_44
abbrev t_Ru_expandAll_40 : List UInt8 := 42 :: t_Ru_expandAll_41
abbrev t_Ru_expandAll_37 : List UInt8 := 162 :: 0 :: 101 :: t_Ru_expandAll_40
abbrev t_Ru_expandAll_35 : List UInt8 := 16 :: 100 :: t_Ru_expandAll_37
abbrev t_Ru_expandAll_34 : List UInt8 := 28 :: t_Ru_expandAll_35
abbrev t_Ru_expandAll_31 : List UInt8 := 163 :: 0 :: 107 :: t_Ru_expandAll_34
abbrev t_Ru_expandAll_28 : List UInt8 := 17 :: 1 :: 244 :: t_Ru_expandAll_31
abbrev t_Ru_expandAll_25 : List UInt8 := 180 :: 0 :: 66 :: t_Ru_expandAll_28
abbrev t_Ru_expandAll_24 : List UInt8 := 42 :: t_Ru_expandAll_25
abbrev t_Ru_expandAll_21 : List UInt8 := 155 :: 0 :: 117 :: t_Ru_expandAll_24
abbrev t_Ru_expandAll_19 : List UInt8 := 21 :: 5 :: t_Ru_expandAll_21
abbrev t_Ru_expandAll_16 : List UInt8 := 163 :: 0 :: 122 :: t_Ru_expandAll_19
abbrev t_Ru_expandAll_13 : List UInt8 := 17 :: 1 :: 244 :: t_Ru_expandAll_16
abbrev t_Ru_expandAll_11 : List UInt8 := 21 :: 6 :: t_Ru_expandAll_13
abbrev t_Ru_expandAll_9 : List UInt8 := 54 :: 6 :: t_Ru_expandAll_11
abbrev t_Ru_expandAll_8 : List UInt8 := 3 :: t_Ru_expandAll_9
abbrev t_Ru_expandAll_6 : List UInt8 := 54 :: 5 :: t_Ru_expandAll_8
abbrev t_Ru_expandAll_5 : List UInt8 := 27 :: t_Ru_expandAll_6
abbrev t_Ru_expandAll_3 : List UInt8 := 54 :: 4 :: t_Ru_expandAll_5
abbrev t_Ru_expandAll_2 : List UInt8 := 2 :: t_Ru_expandAll_3
abbrev t_Ru_expandAll_1 : List UInt8 := 62 :: t_Ru_expandAll_2
abbrev t_Ru_expandAll_0 : List UInt8 := 2 :: t_Ru_expandAll_1
theorem a_Ru_expandAll_0 : dk_at b_Ru_expandAll 0 t_Ru_expandAll_0 := dk_start (by decide +kernel)
theorem a_Ru_expandAll_1 : dk_at b_Ru_expandAll 1 t_Ru_expandAll_1 := dk_go 1 a_Ru_expandAll_0 rfl
theorem a_Ru_expandAll_2 : dk_at b_Ru_expandAll 2 t_Ru_expandAll_2 := dk_go 1 a_Ru_expandAll_1 rfl
theorem a_Ru_expandAll_3 : dk_at b_Ru_expandAll 3 t_Ru_expandAll_3 := dk_go 1 a_Ru_expandAll_2 rfl
theorem a_Ru_expandAll_5 : dk_at b_Ru_expandAll 5 t_Ru_expandAll_5 := dk_go 2 a_Ru_expandAll_3 rfl
theorem a_Ru_expandAll_6 : dk_at b_Ru_expandAll 6 t_Ru_expandAll_6 := dk_go 1 a_Ru_expandAll_5 rfl
theorem a_Ru_expandAll_8 : dk_at b_Ru_expandAll 8 t_Ru_expandAll_8 := dk_go 2 a_Ru_expandAll_6 rfl
theorem a_Ru_expandAll_9 : dk_at b_Ru_expandAll 9 t_Ru_expandAll_9 := dk_go 1 a_Ru_expandAll_8 rfl
theorem a_Ru_expandAll_11 : dk_at b_Ru_expandAll 11 t_Ru_expandAll_11 := dk_go 2 a_Ru_expandAll_9 rfl
theorem a_Ru_expandAll_13 : dk_at b_Ru_expandAll 13 t_Ru_expandAll_13 := dk_go 2 a_Ru_expandAll_11 rfl
theorem a_Ru_expandAll_16 : dk_at b_Ru_expandAll 16 t_Ru_expandAll_16 := dk_go 3 a_Ru_expandAll_13 rfl
theorem a_Ru_expandAll_19 : dk_at b_Ru_expandAll 19 t_Ru_expandAll_19 := dk_go 3 a_Ru_expandAll_16 rfl
theorem a_Ru_expandAll_21 : dk_at b_Ru_expandAll 21 t_Ru_expandAll_21 := dk_go 2 a_Ru_expandAll_19 rfl
theorem a_Ru_expandAll_24 : dk_at b_Ru_expandAll 24 t_Ru_expandAll_24 := dk_go 3 a_Ru_expandAll_21 rfl
theorem a_Ru_expandAll_25 : dk_at b_Ru_expandAll 25 t_Ru_expandAll_25 := dk_go 1 a_Ru_expandAll_24 rfl
theorem a_Ru_expandAll_28 : dk_at b_Ru_expandAll 28 t_Ru_expandAll_28 := dk_go 3 a_Ru_expandAll_25 rfl
theorem a_Ru_expandAll_31 : dk_at b_Ru_expandAll 31 t_Ru_expandAll_31 := dk_go 3 a_Ru_expandAll_28 rfl
theorem a_Ru_expandAll_34 : dk_at b_Ru_expandAll 34 t_Ru_expandAll_34 := dk_go 3 a_Ru_expandAll_31 rfl
theorem a_Ru_expandAll_35 : dk_at b_Ru_expandAll 35 t_Ru_expandAll_35 := dk_go 1 a_Ru_expandAll_34 rfl
theorem a_Ru_expandAll_37 : dk_at b_Ru_expandAll 37 t_Ru_expandAll_37 := dk_go 2 a_Ru_expandAll_35 rfl
theorem a_Ru_expandAll_40 : dk_at b_Ru_expandAll 40 t_Ru_expandAll_40 := dk_go 3 a_Ru_expandAll_37 rfl
theorem a_Ru_expandAll_41 : dk_at b_Ru_expandAll 41 t_Ru_expandAll_41 := dk_go 1 a_Ru_expandAll_40 rfl
theorem a_Ru_expandAll_44 : dk_at b_Ru_expandAll 44 t_Ru_expandAll_44 := dk_go 3 a_Ru_expandAll_41 rfl
theorem a_Ru_expandAll_46 : dk_at b_Ru_expandAll 46 t_Ru_expandAll_46 := dk_go 2 a_Ru_expandAll_44 rfl
theorem a_Ru_expandAll_47 : dk_at b_Ru_expandAll 47 t_Ru_expandAll_47 := dk_go 1 a_Ru_expandAll_46 rfl
theorem a_Ru_expandAll_48 : dk_at b_Ru_expandAll 48 t_Ru_expandAll_48 := dk_go 1 a_Ru_expandAll_47 rfl
theorem a_Ru_expandAll_51 : dk_at b_Ru_expandAll 51 t_Ru_expandAll_51 := dk_go 3 a_Ru_expandAll_48 rfl
theorem a_Ru_expandAll_52 : dk_at b_Ru_expandAll 52 t_Ru_expandAll_52 := dk_go 1 a_Ru_expandAll_51 rfl
theorem a_Ru_expandAll_53 : dk_at b_Ru_expandAll 53 t_Ru_expandAll_53 := dk_go 1 a_Ru_expandAll_52 rfl
theorem a_Ru_expandAll_56 : dk_at b_Ru_expandAll 56 t_Ru_expandAll_56 := dk_go 3 a_Ru_expandAll_53 rfl
theorem a_Ru_expandAll_57 : dk_at b_Ru_expandAll 57 t_Ru_expandAll_57 := dk_go 1 a_Ru_expandAll_56 rfl
theorem a_Ru_expandAll_60 : dk_at b_Ru_expandAll 60 t_Ru_expandAll_60 := dk_go 3 a_Ru_expandAll_57 rfl
theorem a_Ru_expandAll_62 : dk_at b_Ru_expandAll 62 t_Ru_expandAll_62 := dk_go 2 a_Ru_expandAll_60 rfl
theorem a_Ru_expandAll_64 : dk_at b_Ru_expandAll 64 t_Ru_expandAll_64 := dk_go 2 a_Ru_expandAll_62 rfl
theorem a_Ru_expandAll_65 : dk_at b_Ru_expandAll 65 t_Ru_expandAll_65 := dk_go 1 a_Ru_expandAll_64 rfl
theorem a_Ru_expandAll_66 : dk_at b_Ru_expandAll 66 t_Ru_expandAll_66 := dk_go 1 a_Ru_expandAll_65 rfl
theorem a_Ru_expandAll_69 : dk_at b_Ru_expandAll 69 t_Ru_expandAll_69 := dk_go 3 a_Ru_expandAll_66 rfl
theorem a_Ru_expandAll_71 : dk_at b_Ru_expandAll 71 t_Ru_expandAll_71 := dk_go 2 a_Ru_expandAll_69 rfl
theorem a_Ru_expandAll_72 : dk_at b_Ru_expandAll 72 t_Ru_expandAll_72 := dk_go 1 a_Ru_expandAll_71 rfl
theorem a_Ru_expandAll_73 : dk_at b_Ru_expandAll 73 t_Ru_expandAll_73 := dk_go 1 a_Ru_expandAll_72 rfl
theorem a_Ru_expandAll_75 : dk_at b_Ru_expandAll 75 t_Ru_expandAll_75 := dk_go 2 a_Ru_expandAll_73 rfl
theorem a_Ru_expandAll_78 : dk_at b_Ru_expandAll 78 t_Ru_expandAll_78 := dk_go 3 a_Ru_expandAll_75 rfl
theorem a_Ru_expandAll_80 : dk_at b_Ru_expandAll 80 t_Ru_expandAll_80 := dk_go 2 a_Ru_expandAll_78 rfl
theorem a_Ru_expandAll_81 : dk_at b_Ru_expandAll 81 t_Ru_expandAll_81 := dk_go 1 a_Ru_expandAll_80 rfl
theorem a_Ru_expandAll_84 : dk_at b_Ru_expandAll 84 t_Ru_expandAll_84 := dk_go 3 a_Ru_expandAll_81 rfl
theorem a_Ru_expandAll_85 : dk_at b_Ru_expandAll 85 t_Ru_expandAll_85 := dk_go 1 a_Ru_expandAll_84 rfl
theorem a_Ru_expandAll_88 : dk_at b_Ru_expandAll 88 t_Ru_expandAll_88 := dk_go 3 a_Ru_expandAll_85 rfl
theorem a_Ru_expandAll_90 : dk_at b_Ru_expandAll 90 t_Ru_expandAll_90 := dk_go 2 a_Ru_expandAll_88 rfl
theorem a_Ru_expandAll_92 : dk_at b_Ru_expandAll 92 t_Ru_expandAll_92 := dk_go 2 a_Ru_expandAll_90 rfl
theorem a_Ru_expandAll_93 : dk_at b_Ru_expandAll 93 t_Ru_expandAll_93 := dk_go 1 a_Ru_expandAll_92 rfl
theorem a_Ru_expandAll_95 : dk_at b_Ru_expandAll 95 t_Ru_expandAll_95 := dk_go 2 a_Ru_expandAll_93 rfl
theorem a_Ru_expandAll_97 : dk_at b_Ru_expandAll 97 t_Ru_expandAll_97 := dk_go 2 a_Ru_expandAll_95 rfl
theorem a_Ru_expandAll_98 : dk_at b_Ru_expandAll 98 t_Ru_expandAll_98 := dk_go 1 a_Ru_expandAll_97 rfl
theorem a_Ru_expandAll_101 : dk_at b_Ru_expandAll 101 t_Ru_expandAll_101 := dk_go 3 a_Ru_expandAll_98 rfl
theorem a_Ru_expandAll_103 : dk_at b_Ru_expandAll 103 t_Ru_expandAll_103 := dk_go 2 a_Ru_expandAll_101 rfl
theorem a_Ru_expandAll_104 : dk_at b_Ru_expandAll 104 t_Ru_expandAll_104 := dk_go 1 a_Ru_expandAll_103 rfl
theorem a_Ru_expandAll_105 : dk_at b_Ru_expandAll 105 t_Ru_expandAll_105 := dk_go 1 a_Ru_expandAll_104 rfl
theorem a_Ru_expandAll_108 : dk_at b_Ru_expandAll 108 t_Ru_expandAll_108 := dk_go 3 a_Ru_expandAll_105 rfl
theorem a_Ru_expandAll_110 : dk_at b_Ru_expandAll 110 t_Ru_expandAll_110 := dk_go 2 a_Ru_expandAll_108 rfl
theorem a_Ru_expandAll_113 : dk_at b_Ru_expandAll 113 t_Ru_expandAll_113 := dk_go 3 a_Ru_expandAll_110 rfl
theorem a_Ru_expandAll_114 : dk_at b_Ru_expandAll 114 t_Ru_expandAll_114 := dk_go 1 a_Ru_expandAll_113 rfl
theorem a_Ru_expandAll_115 : dk_at b_Ru_expandAll 115 t_Ru_expandAll_115 := dk_go 1 a_Ru_expandAll_114 rfl
theorem a_Ru_expandAll_116 : dk_at b_Ru_expandAll 116 t_Ru_expandAll_116 := dk_go 1 a_Ru_expandAll_115 rfl
theorem a_Ru_expandAll_119 : dk_at b_Ru_expandAll 119 t_Ru_expandAll_119 := dk_go 3 a_Ru_expandAll_116 rfl
theorem a_Ru_expandAll_120 : dk_at b_Ru_expandAll 120 t_Ru_expandAll_120 := dk_go 1 a_Ru_expandAll_119 rfl
theorem a_Ru_expandAll_121 : dk_at b_Ru_expandAll 121 t_Ru_expandAll_121 := dk_go 1 a_Ru_expandAll_120 rfl
theorem a_Ru_expandAll_124 : dk_at b_Ru_expandAll 124 t_Ru_expandAll_124 := dk_go 3 a_Ru_expandAll_121 rfl
theorem a_Ru_expandAll_127 : dk_at b_Ru_expandAll 127 t_Ru_expandAll_127 := dk_go 3 a_Ru_expandAll_124 rfl
theorem a_Ru_expandAll_129 : dk_at b_Ru_expandAll 129 t_Ru_expandAll_129 := dk_go 2 a_Ru_expandAll_127 rfl
theorem a_Ru_expandAll_130 : dk_at b_Ru_expandAll 130 t_Ru_expandAll_130 := dk_go 1 a_Ru_expandAll_129 rfl
theorem a_Ru_expandAll_132 : dk_at b_Ru_expandAll 132 t_Ru_expandAll_132 := dk_go 2 a_Ru_expandAll_130 rfl
theorem a_Ru_expandAll_135 : dk_at b_Ru_expandAll 135 t_Ru_expandAll_135 := dk_go 3 a_Ru_expandAll_132 rfl
theorem a_Ru_expandAll_138 : dk_at b_Ru_expandAll 138 t_Ru_expandAll_138 := dk_go 3 a_Ru_expandAll_135 rfl
theorem a_Ru_expandAll_139 : dk_at b_Ru_expandAll 139 t_Ru_expandAll_139 := dk_go 1 a_Ru_expandAll_138 rfl
theorem d_Ru_expandAll_0 : decode b_Ru_expandAll 0 = .ok (.iconst (-1), 1) := dk_0 a_Ru_expandAll_0 (dko_2 _)
theorem d_Ru_expandAll_1 : decode b_Ru_expandAll 1 = .ok (.istore_n 3, 1) := dk_0 a_Ru_expandAll_1 (dko_62 _)
theorem d_Ru_expandAll_2 : decode b_Ru_expandAll 2 = .ok (.iconst (-1), 1) := dk_0 a_Ru_expandAll_2 (dko_2 _)
theorem d_Ru_expandAll_3 : decode b_Ru_expandAll 3 = .ok (.istore 4, 2) := dk_U1 a_Ru_expandAll_3 (dko_54 _) rfl
theorem d_Ru_expandAll_5 : decode b_Ru_expandAll 5 = .ok (.iload_n 1, 1) := dk_0 a_Ru_expandAll_5 (dko_27 _)
theorem d_Ru_expandAll_6 : decode b_Ru_expandAll 6 = .ok (.istore 5, 2) := dk_U1 a_Ru_expandAll_6 (dko_54 _) rfl
theorem d_Ru_expandAll_8 : decode b_Ru_expandAll 8 = .ok (.iconst 0, 1) := dk_0 a_Ru_expandAll_8 (dko_3 _)
theorem d_Ru_expandAll_9 : decode b_Ru_expandAll 9 = .ok (.istore 6, 2) := dk_U1 a_Ru_expandAll_9 (dko_54 _) rfl
theorem d_Ru_expandAll_11 : decode b_Ru_expandAll 11 = .ok (.iload 6, 2) := dk_U1 a_Ru_expandAll_11 (dko_21 _) rfl
theorem d_Ru_expandAll_13 : decode b_Ru_expandAll 13 = .ok (.sipush 500, 3) := dk_S2 a_Ru_expandAll_13 (dko_17 _) (by decide +kernel)
theorem d_Ru_expandAll_16 : decode b_Ru_expandAll 16 = .ok (.if_icmp .gt 122, 3) := dk_S2 a_Ru_expandAll_16 (dko_163 _) (by decide +kernel)
theorem d_Ru_expandAll_19 : decode b_Ru_expandAll 19 = .ok (.iload 5, 2) := dk_U1 a_Ru_expandAll_19 (dko_21 _) rfl
theorem d_Ru_expandAll_21 : decode b_Ru_expandAll 21 = .ok (.ifCond .lt 117, 3) := dk_S2 a_Ru_expandAll_21 (dko_155 _) (by decide +kernel)
theorem d_Ru_expandAll_24 : decode b_Ru_expandAll 24 = .ok (.aload_n 0, 1) := dk_0 a_Ru_expandAll_24 (dko_42 _)
theorem d_Ru_expandAll_25 : decode b_Ru_expandAll 25 = .ok (.getfield 66, 3) := dk_U2 a_Ru_expandAll_25 (dko_180 _) rfl
theorem d_Ru_expandAll_28 : decode b_Ru_expandAll 28 = .ok (.sipush 500, 3) := dk_S2 a_Ru_expandAll_28 (dko_17 _) (by decide +kernel)
theorem d_Ru_expandAll_31 : decode b_Ru_expandAll 31 = .ok (.if_icmp .gt 107, 3) := dk_S2 a_Ru_expandAll_31 (dko_163 _) (by decide +kernel)
theorem d_Ru_expandAll_34 : decode b_Ru_expandAll 34 = .ok (.iload_n 2, 1) := dk_0 a_Ru_expandAll_34 (dko_28 _)
theorem d_Ru_expandAll_35 : decode b_Ru_expandAll 35 = .ok (.bipush 100, 2) := dk_S1 a_Ru_expandAll_35 (dko_16 _) (by decide +kernel)
theorem d_Ru_expandAll_37 : decode b_Ru_expandAll 37 = .ok (.if_icmp .ge 101, 3) := dk_S2 a_Ru_expandAll_37 (dko_162 _) (by decide +kernel)
theorem d_Ru_expandAll_40 : decode b_Ru_expandAll 40 = .ok (.aload_n 0, 1) := dk_0 a_Ru_expandAll_40 (dko_42 _)
theorem d_Ru_expandAll_41 : decode b_Ru_expandAll 41 = .ok (.getfield 66, 3) := dk_U2 a_Ru_expandAll_41 (dko_180 _) rfl
theorem d_Ru_expandAll_44 : decode b_Ru_expandAll 44 = .ok (.istore 7, 2) := dk_U1 a_Ru_expandAll_44 (dko_54 _) rfl
theorem d_Ru_expandAll_46 : decode b_Ru_expandAll 46 = .ok (.aload_n 0, 1) := dk_0 a_Ru_expandAll_46 (dko_42 _)
theorem d_Ru_expandAll_47 : decode b_Ru_expandAll 47 = .ok (.dup, 1) := dk_0 a_Ru_expandAll_47 (dko_89 _)
theorem d_Ru_expandAll_48 : decode b_Ru_expandAll 48 = .ok (.getfield 66, 3) := dk_U2 a_Ru_expandAll_48 (dko_180 _) rfl
theorem d_Ru_expandAll_51 : decode b_Ru_expandAll 51 = .ok (.iconst 1, 1) := dk_0 a_Ru_expandAll_51 (dko_4 _)
theorem d_Ru_expandAll_52 : decode b_Ru_expandAll 52 = .ok (.iadd, 1) := dk_0 a_Ru_expandAll_52 (dko_96 _)
theorem d_Ru_expandAll_53 : decode b_Ru_expandAll 53 = .ok (.putfield 66, 3) := dk_U2 a_Ru_expandAll_53 (dko_181 _) rfl
theorem d_Ru_expandAll_56 : decode b_Ru_expandAll 56 = .ok (.aload_n 0, 1) := dk_0 a_Ru_expandAll_56 (dko_42 _)
theorem d_Ru_expandAll_57 : decode b_Ru_expandAll 57 = .ok (.getfield 22, 3) := dk_U2 a_Ru_expandAll_57 (dko_180 _) rfl
theorem d_Ru_expandAll_60 : decode b_Ru_expandAll 60 = .ok (.iload 7, 2) := dk_U1 a_Ru_expandAll_60 (dko_21 _) rfl
theorem d_Ru_expandAll_62 : decode b_Ru_expandAll 62 = .ok (.iload 5, 2) := dk_U1 a_Ru_expandAll_62 (dko_21 _) rfl
theorem d_Ru_expandAll_64 : decode b_Ru_expandAll 64 = .ok (.iastore, 1) := dk_0 a_Ru_expandAll_64 (dko_79 _)
theorem d_Ru_expandAll_65 : decode b_Ru_expandAll 65 = .ok (.aload_n 0, 1) := dk_0 a_Ru_expandAll_65 (dko_42 _)
theorem d_Ru_expandAll_66 : decode b_Ru_expandAll 66 = .ok (.getfield 29, 3) := dk_U2 a_Ru_expandAll_66 (dko_180 _) rfl
theorem d_Ru_expandAll_69 : decode b_Ru_expandAll 69 = .ok (.iload 7, 2) := dk_U1 a_Ru_expandAll_69 (dko_21 _) rfl
theorem d_Ru_expandAll_71 : decode b_Ru_expandAll 71 = .ok (.iconst (-1), 1) := dk_0 a_Ru_expandAll_71 (dko_2 _)
theorem d_Ru_expandAll_72 : decode b_Ru_expandAll 72 = .ok (.iastore, 1) := dk_0 a_Ru_expandAll_72 (dko_79 _)
theorem d_Ru_expandAll_73 : decode b_Ru_expandAll 73 = .ok (.iload 4, 2) := dk_U1 a_Ru_expandAll_73 (dko_21 _) rfl
theorem d_Ru_expandAll_75 : decode b_Ru_expandAll 75 = .ok (.ifCond .ge 9, 3) := dk_S2 a_Ru_expandAll_75 (dko_156 _) (by decide +kernel)
theorem d_Ru_expandAll_78 : decode b_Ru_expandAll 78 = .ok (.iload 7, 2) := dk_U1 a_Ru_expandAll_78 (dko_21 _) rfl
theorem d_Ru_expandAll_80 : decode b_Ru_expandAll 80 = .ok (.istore_n 3, 1) := dk_0 a_Ru_expandAll_80 (dko_62 _)
theorem d_Ru_expandAll_81 : decode b_Ru_expandAll 81 = .ok (.goto 12, 3) := dk_S2 a_Ru_expandAll_81 (dko_167 _) (by decide +kernel)
theorem d_Ru_expandAll_84 : decode b_Ru_expandAll 84 = .ok (.aload_n 0, 1) := dk_0 a_Ru_expandAll_84 (dko_42 _)
theorem d_Ru_expandAll_85 : decode b_Ru_expandAll 85 = .ok (.getfield 29, 3) := dk_U2 a_Ru_expandAll_85 (dko_180 _) rfl
theorem d_Ru_expandAll_88 : decode b_Ru_expandAll 88 = .ok (.iload 4, 2) := dk_U1 a_Ru_expandAll_88 (dko_21 _) rfl
theorem d_Ru_expandAll_90 : decode b_Ru_expandAll 90 = .ok (.iload 7, 2) := dk_U1 a_Ru_expandAll_90 (dko_21 _) rfl
theorem d_Ru_expandAll_92 : decode b_Ru_expandAll 92 = .ok (.iastore, 1) := dk_0 a_Ru_expandAll_92 (dko_79 _)
theorem d_Ru_expandAll_93 : decode b_Ru_expandAll 93 = .ok (.iload 7, 2) := dk_U1 a_Ru_expandAll_93 (dko_21 _) rfl
theorem d_Ru_expandAll_95 : decode b_Ru_expandAll 95 = .ok (.istore 4, 2) := dk_U1 a_Ru_expandAll_95 (dko_54 _) rfl
theorem d_Ru_expandAll_97 : decode b_Ru_expandAll 97 = .ok (.aload_n 0, 1) := dk_0 a_Ru_expandAll_97 (dko_42 _)
theorem d_Ru_expandAll_98 : decode b_Ru_expandAll 98 = .ok (.getfield 26, 3) := dk_U2 a_Ru_expandAll_98 (dko_180 _) rfl
theorem d_Ru_expandAll_101 : decode b_Ru_expandAll 101 = .ok (.iload 7, 2) := dk_U1 a_Ru_expandAll_101 (dko_21 _) rfl
theorem d_Ru_expandAll_103 : decode b_Ru_expandAll 103 = .ok (.aload_n 0, 1) := dk_0 a_Ru_expandAll_103 (dko_42 _)
theorem d_Ru_expandAll_104 : decode b_Ru_expandAll 104 = .ok (.aload_n 0, 1) := dk_0 a_Ru_expandAll_104 (dko_42 _)
theorem d_Ru_expandAll_105 : decode b_Ru_expandAll 105 = .ok (.getfield 12, 3) := dk_U2 a_Ru_expandAll_105 (dko_180 _) rfl
theorem d_Ru_expandAll_108 : decode b_Ru_expandAll 108 = .ok (.iload 5, 2) := dk_U1 a_Ru_expandAll_108 (dko_21 _) rfl
theorem d_Ru_expandAll_110 : decode b_Ru_expandAll 110 = .ok (.invokevirtual 76, 3) := dk_U2 a_Ru_expandAll_110 (dko_182 _) rfl
theorem d_Ru_expandAll_113 : decode b_Ru_expandAll 113 = .ok (.iload_n 2, 1) := dk_0 a_Ru_expandAll_113 (dko_28 _)
theorem d_Ru_expandAll_114 : decode b_Ru_expandAll 114 = .ok (.iconst 1, 1) := dk_0 a_Ru_expandAll_114 (dko_4 _)
theorem d_Ru_expandAll_115 : decode b_Ru_expandAll 115 = .ok (.iadd, 1) := dk_0 a_Ru_expandAll_115 (dko_96 _)
theorem d_Ru_expandAll_116 : decode b_Ru_expandAll 116 = .ok (.invokevirtual 72, 3) := dk_U2 a_Ru_expandAll_116 (dko_182 _) rfl
theorem d_Ru_expandAll_119 : decode b_Ru_expandAll 119 = .ok (.iastore, 1) := dk_0 a_Ru_expandAll_119 (dko_79 _)
theorem d_Ru_expandAll_120 : decode b_Ru_expandAll 120 = .ok (.aload_n 0, 1) := dk_0 a_Ru_expandAll_120 (dko_42 _)
theorem d_Ru_expandAll_121 : decode b_Ru_expandAll 121 = .ok (.getfield 12, 3) := dk_U2 a_Ru_expandAll_121 (dko_180 _) rfl
theorem d_Ru_expandAll_124 : decode b_Ru_expandAll 124 = .ok (.getfield 80, 3) := dk_U2 a_Ru_expandAll_124 (dko_180 _) rfl
theorem d_Ru_expandAll_127 : decode b_Ru_expandAll 127 = .ok (.iload 5, 2) := dk_U1 a_Ru_expandAll_127 (dko_21 _) rfl
theorem d_Ru_expandAll_129 : decode b_Ru_expandAll 129 = .ok (.iaload, 1) := dk_0 a_Ru_expandAll_129 (dko_46 _)
theorem d_Ru_expandAll_130 : decode b_Ru_expandAll 130 = .ok (.istore 5, 2) := dk_U1 a_Ru_expandAll_130 (dko_54 _) rfl
theorem d_Ru_expandAll_132 : decode b_Ru_expandAll 132 = .ok (.iinc 6 1, 3) := dk_US a_Ru_expandAll_132 (dko_132 _) (by decide +kernel)
theorem d_Ru_expandAll_135 : decode b_Ru_expandAll 135 = .ok (.goto (-124), 3) := dk_S2 a_Ru_expandAll_135 (dko_167 _) (by decide +kernel)
theorem d_Ru_expandAll_138 : decode b_Ru_expandAll 138 = .ok (.iload_n 3, 1) := dk_0 a_Ru_expandAll_138 (dko_29 _)
theorem d_Ru_expandAll_139 : decode b_Ru_expandAll 139 = .ok (.ireturn, 1) := dk_0 a_Ru_expandAll_139 (dko_172 _)
set_option maxHeartbeats 4000000 in
set_option maxRecDepth 100000 in
theorem ok_Ru_expandAll (pc : Nat) : OpS mt mi_Ru_expandAll pc (cs_Ru_expandAll pc) := (os_n (os_n (os_n (os_n (os_n (os_n (os_l (so_iconst d_Ru_expandAll_0 (by decide))) (os_l (so_istore_n d_Ru_expandAll_1 rfl (by decide)))) (os_n (os_l (so_iconst d_Ru_expandAll_2 (by decide))) (os_l (so_istore d_Ru_expandAll_3 (by decide))))) (os_n (os_n (os_l (so_iload_n d_Ru_expandAll_5 rfl)) (os_l (so_istore d_Ru_expandAll_6 (by decide)))) (os_n (os_l (so_iconst d_Ru_expandAll_8 (by decide))) (os_n (os_l (so_istore d_Ru_expandAll_9 (by decide))) (os_l (so_iload d_Ru_expandAll_11)))))) (os_n (os_n (os_n (os_l (so_sipush d_Ru_expandAll_13 (by decide))) (os_l (so_icgt d_Ru_expandAll_16 (by decide)))) (os_n (os_l (so_iload d_Ru_expandAll_19)) (os_l (so_iflt d_Ru_expandAll_21 (by decide))))) (os_n (os_n (os_l (so_aload_n d_Ru_expandAll_24 rfl)) (os_l (so_get (C := R_Ru) (T := F_Ru) (N := 21) (j := 5) in_Ru rfl (by decide) mw_518 d_Ru_expandAll_25))) (os_n (os_l (so_sipush d_Ru_expandAll_28 (by decide))) (os_n (os_l (so_icgt d_Ru_expandAll_31 (by decide))) (os_l (so_iload_n d_Ru_expandAll_34 rfl))))))) (os_n (os_n (os_n (os_n (os_l (so_bipush d_Ru_expandAll_35 (by decide))) (os_l (so_icge d_Ru_expandAll_37 (by decide)))) (os_n (os_l (so_aload_n d_Ru_expandAll_40 rfl)) (os_l (so_get (C := R_Ru) (T := F_Ru) (N := 21) (j := 5) in_Ru rfl (by decide) mw_518 d_Ru_expandAll_41)))) (os_n (os_n (os_l (so_istore d_Ru_expandAll_44 (by decide))) (os_l (so_aload_n d_Ru_expandAll_46 rfl))) (os_n (os_l (so_dup d_Ru_expandAll_47)) (os_n (os_l (so_get (C := R_Ru) (T := F_Ru) (N := 21) (j := 5) in_Ru rfl (by decide) mw_518 d_Ru_expandAll_48)) (os_l (so_iconst d_Ru_expandAll_51 (by decide))))))) (os_n (os_n (os_n (os_l (so_iadd d_Ru_expandAll_52)) (os_l (so_putI (C := R_Ru) (T := F_Ru) (N := 21) (j := 5) in_Ru t_Ru_ok n_Ru rfl (by decide) mw_518 rfl (by decide +kernel) d_Ru_expandAll_53))) (os_n (os_l (so_aload_n d_Ru_expandAll_56 rfl)) (os_n (os_l (so_get (C := R_Ru) (T := F_Ru) (N := 21) (j := 6) in_Ru rfl (by decide) mw_519 d_Ru_expandAll_57)) (os_l (so_iload d_Ru_expandAll_60))))) (os_n (os_n (os_l (so_iload d_Ru_expandAll_62)) (os_l (so_iastore d_Ru_expandAll_64))) (os_n (os_l (so_aload_n d_Ru_expandAll_65 rfl)) (os_n (os_l (so_get (C := R_Ru) (T := F_Ru) (N := 21) (j := 8) in_Ru rfl (by decide) mw_521 d_Ru_expandAll_66)) (os_l (so_iload d_Ru_expandAll_69)))))))) (os_n (os_n (os_n (os_n (os_n (os_l (so_iconst d_Ru_expandAll_71 (by decide))) (os_l (so_iastore d_Ru_expandAll_72))) (os_n (os_l (so_iload d_Ru_expandAll_73)) (os_l (so_ifge d_Ru_expandAll_75 (by decide))))) (os_n (os_n (os_l (so_iload d_Ru_expandAll_78)) (os_l (so_istore_n d_Ru_expandAll_80 rfl (by decide)))) (os_n (os_l (so_goto d_Ru_expandAll_81 (by decide))) (os_n (os_l (so_aload_n d_Ru_expandAll_84 rfl)) (os_l (so_get (C := R_Ru) (T := F_Ru) (N := 21) (j := 8) in_Ru rfl (by decide) mw_521 d_Ru_expandAll_85)))))) (os_n (os_n (os_n (os_l (so_iload d_Ru_expandAll_88)) (os_l (so_iload d_Ru_expandAll_90))) (os_n (os_l (so_iastore d_Ru_expandAll_92)) (os_l (so_iload d_Ru_expandAll_93)))) (os_n (os_n (os_l (so_istore d_Ru_expandAll_95 (by decide))) (os_l (so_aload_n d_Ru_expandAll_97 rfl))) (os_n (os_l (so_get (C := R_Ru) (T := F_Ru) (N := 21) (j := 7) in_Ru rfl (by decide) mw_520 d_Ru_expandAll_98)) (os_n (os_l (so_iload d_Ru_expandAll_101)) (os_l (so_aload_n d_Ru_expandAll_103 rfl))))))) (os_n (os_n (os_n (os_n (os_l (so_aload_n d_Ru_expandAll_104 rfl)) (os_l (so_get (C := R_Ru) (T := F_Ru) (N := 21) (j := 3) in_Ru rfl (by decide) mw_514 d_Ru_expandAll_105))) (os_n (os_l (so_iload d_Ru_expandAll_108)) (os_l (so_callV (iv := mi_Pr_firstBlock) rfl rfl rfl mw_1059 mw_1060 mw_1061 mw_12 mw_1062 ⟨by decide +kernel, by decide +kernel, by decide +kernel⟩ (by decide) d_Ru_expandAll_110)))) (os_n (os_n (os_l (so_iload_n d_Ru_expandAll_113 rfl)) (os_l (so_iconst d_Ru_expandAll_114 (by decide)))) (os_n (os_l (so_iadd d_Ru_expandAll_115)) (os_n (os_l (so_callV (iv := mi_Ru_expandAll) rfl rfl rfl mw_1055 mw_1057 sl_45 mw_11 mw_1058 ⟨by decide +kernel, by decide +kernel, by decide +kernel⟩ (by decide) d_Ru_expandAll_116)) (os_l (so_iastore d_Ru_expandAll_119)))))) (os_n (os_n (os_n (os_l (so_aload_n d_Ru_expandAll_120 rfl)) (os_l (so_get (C := R_Ru) (T := F_Ru) (N := 21) (j := 3) in_Ru rfl (by decide) mw_514 d_Ru_expandAll_121))) (os_n (os_l (so_get (C := R_Pr) (T := F_Pr) (N := 18) (j := 8) in_Pr rfl (by decide) mw_453 d_Ru_expandAll_124)) (os_n (os_l (so_iload d_Ru_expandAll_127)) (os_l (so_iaload d_Ru_expandAll_129))))) (os_n (os_n (os_l (so_istore d_Ru_expandAll_130 (by decide))) (os_l (so_iinc d_Ru_expandAll_132 (by decide) (by decide)))) (os_n (os_l (so_goto d_Ru_expandAll_135 (by decide))) (os_n (os_l (so_iload_n d_Ru_expandAll_138 rfl)) (os_l (so_ireturn rfl d_Ru_expandAll_139)))))))))
abbrev t_Ru_begin_10 : List UInt8 := 177 :: []
abbrev t_Ru_begin_7 : List UInt8 := 182 :: 0 :: 81 :: t_Ru_begin_10
abbrev t_Ru_begin_6 : List UInt8 := 3 :: t_Ru_begin_7
abbrev t_Ru_begin_5 : List UInt8 := 42 :: t_Ru_begin_6
abbrev t_Ru_begin_2 : List UInt8 := 181 :: 0 :: 18 :: t_Ru_begin_5
abbrev t_Ru_begin_1 : List UInt8 := 3 :: t_Ru_begin_2
abbrev t_Ru_begin_0 : List UInt8 := 42 :: t_Ru_begin_1
theorem a_Ru_begin_0 : dk_at b_Ru_begin 0 t_Ru_begin_0 := dk_start (by decide +kernel)
theorem a_Ru_begin_1 : dk_at b_Ru_begin 1 t_Ru_begin_1 := dk_go 1 a_Ru_begin_0 rfl
theorem a_Ru_begin_2 : dk_at b_Ru_begin 2 t_Ru_begin_2 := dk_go 1 a_Ru_begin_1 rfl
theorem a_Ru_begin_5 : dk_at b_Ru_begin 5 t_Ru_begin_5 := dk_go 3 a_Ru_begin_2 rfl
theorem a_Ru_begin_6 : dk_at b_Ru_begin 6 t_Ru_begin_6 := dk_go 1 a_Ru_begin_5 rfl
theorem a_Ru_begin_7 : dk_at b_Ru_begin 7 t_Ru_begin_7 := dk_go 1 a_Ru_begin_6 rfl
theorem a_Ru_begin_10 : dk_at b_Ru_begin 10 t_Ru_begin_10 := dk_go 3 a_Ru_begin_7 rfl
theorem d_Ru_begin_0 : decode b_Ru_begin 0 = .ok (.aload_n 0, 1) := dk_0 a_Ru_begin_0 (dko_42 _)
theorem d_Ru_begin_1 : decode b_Ru_begin 1 = .ok (.iconst 0, 1) := dk_0 a_Ru_begin_1 (dko_3 _)
theorem d_Ru_begin_2 : decode b_Ru_begin 2 = .ok (.putfield 18, 3) := dk_U2 a_Ru_begin_2 (dko_181 _) rfl
theorem d_Ru_begin_5 : decode b_Ru_begin 5 = .ok (.aload_n 0, 1) := dk_0 a_Ru_begin_5 (dko_42 _)
theorem d_Ru_begin_6 : decode b_Ru_begin 6 = .ok (.iconst 0, 1) := dk_0 a_Ru_begin_6 (dko_3 _)
theorem d_Ru_begin_7 : decode b_Ru_begin 7 = .ok (.invokevirtual 81, 3) := dk_U2 a_Ru_begin_7 (dko_182 _) rfl
theorem d_Ru_begin_10 : decode b_Ru_begin 10 = .ok (.return_, 1) := dk_0 a_Ru_begin_10 (dko_177 _)
set_option maxHeartbeats 4000000 in
set_option maxRecDepth 100000 in
theorem ok_Ru_begin (pc : Nat) : OpS mt mi_Ru_begin pc (cs_Ru_begin pc) := (os_n (os_n (os_l (so_aload_n d_Ru_begin_0 rfl)) (os_n (os_l (so_iconst d_Ru_begin_1 (by decide))) (os_l (so_putI (C := R_Ru) (T := F_Ru) (N := 21) (j := 4) in_Ru t_Ru_ok n_Ru rfl (by decide) mw_516 rfl (by decide +kernel) d_Ru_begin_2)))) (os_n (os_n (os_l (so_aload_n d_Ru_begin_5 rfl)) (os_l (so_iconst d_Ru_begin_6 (by decide)))) (os_n (os_l (so_callV (iv := mi_Ru_enter) rfl rfl rfl mw_1314 mw_1316 sl_61 mw_11 mw_1317 ⟨by decide +kernel, by decide +kernel, by decide +kernel⟩ (by decide) d_Ru_begin_7)) (os_l (so_return rfl d_Ru_begin_10)))))
abbrev t_Ru_enter_40 : List UInt8 := 177 :: []
abbrev t_Ru_enter_39 : List UInt8 := 79 :: t_Ru_enter_40
abbrev t_Ru_enter_38 : List UInt8 := 3 :: t_Ru_enter_39
abbrev t_Ru_enter_37 : List UInt8 := 46 :: t_Ru_enter_38
abbrev t_Ru_enter_36 : List UInt8 := 27 :: t_Ru_enter_37
abbrev t_Ru_enter_33 : List UInt8 := 180 :: 0 :: 26 :: t_Ru_enter_36
abbrev t_Ru_enter_32 : List UInt8 := 42 :: t_Ru_enter_33
abbrev t_Ru_enter_29 : List UInt8 := 180 :: 0 :: 32 :: t_Ru_enter_32
abbrev t_Ru_enter_28 : List UInt8 := 42 :: t_Ru_enter_29
abbrev t_Ru_enter_25 : List UInt8 := 155 :: 0 :: 15 :: t_Ru_enter_28
abbrev t_Ru_enter_24 : List UInt8 := 46 :: t_Ru_enter_25
abbrev t_Ru_enter_23 : List UInt8 := 27 :: t_Ru_enter_24
abbrev t_Ru_enter_20 : List UInt8 := 180 :: 0 :: 26 :: t_Ru_enter_23
abbrev t_Ru_enter_19 : List UInt8 := 42 :: t_Ru_enter_20
abbrev t_Ru_enter_18 : List UInt8 := 79 :: t_Ru_enter_19
abbrev t_Ru_enter_17 : List UInt8 := 46 :: t_Ru_enter_18
abbrev t_Ru_enter_16 : List UInt8 := 27 :: t_Ru_enter_17
abbrev t_Ru_enter_13 : List UInt8 := 180 :: 0 :: 26 :: t_Ru_enter_16
abbrev t_Ru_enter_12 : List UInt8 := 42 :: t_Ru_enter_13
abbrev t_Ru_enter_11 : List UInt8 := 27 :: t_Ru_enter_12
abbrev t_Ru_enter_8 : List UInt8 := 180 :: 0 :: 35 :: t_Ru_enter_11
abbrev t_Ru_enter_7 : List UInt8 := 42 :: t_Ru_enter_8
abbrev t_Ru_enter_6 : List UInt8 := 79 :: t_Ru_enter_7
abbrev t_Ru_enter_5 : List UInt8 := 4 :: t_Ru_enter_6
abbrev t_Ru_enter_4 : List UInt8 := 27 :: t_Ru_enter_5
abbrev t_Ru_enter_1 : List UInt8 := 180 :: 0 :: 32 :: t_Ru_enter_4
abbrev t_Ru_enter_0 : List UInt8 := 42 :: t_Ru_enter_1
theorem a_Ru_enter_0 : dk_at b_Ru_enter 0 t_Ru_enter_0 := dk_start (by decide +kernel)
theorem a_Ru_enter_1 : dk_at b_Ru_enter 1 t_Ru_enter_1 := dk_go 1 a_Ru_enter_0 rfl
theorem a_Ru_enter_4 : dk_at b_Ru_enter 4 t_Ru_enter_4 := dk_go 3 a_Ru_enter_1 rfl
theorem a_Ru_enter_5 : dk_at b_Ru_enter 5 t_Ru_enter_5 := dk_go 1 a_Ru_enter_4 rfl
theorem a_Ru_enter_6 : dk_at b_Ru_enter 6 t_Ru_enter_6 := dk_go 1 a_Ru_enter_5 rfl
theorem a_Ru_enter_7 : dk_at b_Ru_enter 7 t_Ru_enter_7 := dk_go 1 a_Ru_enter_6 rfl
theorem a_Ru_enter_8 : dk_at b_Ru_enter 8 t_Ru_enter_8 := dk_go 1 a_Ru_enter_7 rfl
theorem a_Ru_enter_11 : dk_at b_Ru_enter 11 t_Ru_enter_11 := dk_go 3 a_Ru_enter_8 rfl
theorem a_Ru_enter_12 : dk_at b_Ru_enter 12 t_Ru_enter_12 := dk_go 1 a_Ru_enter_11 rfl
theorem a_Ru_enter_13 : dk_at b_Ru_enter 13 t_Ru_enter_13 := dk_go 1 a_Ru_enter_12 rfl
theorem a_Ru_enter_16 : dk_at b_Ru_enter 16 t_Ru_enter_16 := dk_go 3 a_Ru_enter_13 rfl
theorem a_Ru_enter_17 : dk_at b_Ru_enter 17 t_Ru_enter_17 := dk_go 1 a_Ru_enter_16 rfl
theorem a_Ru_enter_18 : dk_at b_Ru_enter 18 t_Ru_enter_18 := dk_go 1 a_Ru_enter_17 rfl
theorem a_Ru_enter_19 : dk_at b_Ru_enter 19 t_Ru_enter_19 := dk_go 1 a_Ru_enter_18 rfl
theorem a_Ru_enter_20 : dk_at b_Ru_enter 20 t_Ru_enter_20 := dk_go 1 a_Ru_enter_19 rfl
theorem a_Ru_enter_23 : dk_at b_Ru_enter 23 t_Ru_enter_23 := dk_go 3 a_Ru_enter_20 rfl
theorem a_Ru_enter_24 : dk_at b_Ru_enter 24 t_Ru_enter_24 := dk_go 1 a_Ru_enter_23 rfl
theorem a_Ru_enter_25 : dk_at b_Ru_enter 25 t_Ru_enter_25 := dk_go 1 a_Ru_enter_24 rfl
theorem a_Ru_enter_28 : dk_at b_Ru_enter 28 t_Ru_enter_28 := dk_go 3 a_Ru_enter_25 rfl
theorem a_Ru_enter_29 : dk_at b_Ru_enter 29 t_Ru_enter_29 := dk_go 1 a_Ru_enter_28 rfl
theorem a_Ru_enter_32 : dk_at b_Ru_enter 32 t_Ru_enter_32 := dk_go 3 a_Ru_enter_29 rfl
theorem a_Ru_enter_33 : dk_at b_Ru_enter 33 t_Ru_enter_33 := dk_go 1 a_Ru_enter_32 rfl
theorem a_Ru_enter_36 : dk_at b_Ru_enter 36 t_Ru_enter_36 := dk_go 3 a_Ru_enter_33 rfl
theorem a_Ru_enter_37 : dk_at b_Ru_enter 37 t_Ru_enter_37 := dk_go 1 a_Ru_enter_36 rfl
theorem a_Ru_enter_38 : dk_at b_Ru_enter 38 t_Ru_enter_38 := dk_go 1 a_Ru_enter_37 rfl
theorem a_Ru_enter_39 : dk_at b_Ru_enter 39 t_Ru_enter_39 := dk_go 1 a_Ru_enter_38 rfl
theorem a_Ru_enter_40 : dk_at b_Ru_enter 40 t_Ru_enter_40 := dk_go 1 a_Ru_enter_39 rfl
theorem d_Ru_enter_0 : decode b_Ru_enter 0 = .ok (.aload_n 0, 1) := dk_0 a_Ru_enter_0 (dko_42 _)
theorem d_Ru_enter_1 : decode b_Ru_enter 1 = .ok (.getfield 32, 3) := dk_U2 a_Ru_enter_1 (dko_180 _) rfl
theorem d_Ru_enter_4 : decode b_Ru_enter 4 = .ok (.iload_n 1, 1) := dk_0 a_Ru_enter_4 (dko_27 _)
theorem d_Ru_enter_5 : decode b_Ru_enter 5 = .ok (.iconst 1, 1) := dk_0 a_Ru_enter_5 (dko_4 _)
theorem d_Ru_enter_6 : decode b_Ru_enter 6 = .ok (.iastore, 1) := dk_0 a_Ru_enter_6 (dko_79 _)
theorem d_Ru_enter_7 : decode b_Ru_enter 7 = .ok (.aload_n 0, 1) := dk_0 a_Ru_enter_7 (dko_42 _)
theorem d_Ru_enter_8 : decode b_Ru_enter 8 = .ok (.getfield 35, 3) := dk_U2 a_Ru_enter_8 (dko_180 _) rfl
theorem d_Ru_enter_11 : decode b_Ru_enter 11 = .ok (.iload_n 1, 1) := dk_0 a_Ru_enter_11 (dko_27 _)
theorem d_Ru_enter_12 : decode b_Ru_enter 12 = .ok (.aload_n 0, 1) := dk_0 a_Ru_enter_12 (dko_42 _)
theorem d_Ru_enter_13 : decode b_Ru_enter 13 = .ok (.getfield 26, 3) := dk_U2 a_Ru_enter_13 (dko_180 _) rfl
theorem d_Ru_enter_16 : decode b_Ru_enter 16 = .ok (.iload_n 1, 1) := dk_0 a_Ru_enter_16 (dko_27 _)
theorem d_Ru_enter_17 : decode b_Ru_enter 17 = .ok (.iaload, 1) := dk_0 a_Ru_enter_17 (dko_46 _)
theorem d_Ru_enter_18 : decode b_Ru_enter 18 = .ok (.iastore, 1) := dk_0 a_Ru_enter_18 (dko_79 _)
theorem d_Ru_enter_19 : decode b_Ru_enter 19 = .ok (.aload_n 0, 1) := dk_0 a_Ru_enter_19 (dko_42 _)
theorem d_Ru_enter_20 : decode b_Ru_enter 20 = .ok (.getfield 26, 3) := dk_U2 a_Ru_enter_20 (dko_180 _) rfl
theorem d_Ru_enter_23 : decode b_Ru_enter 23 = .ok (.iload_n 1, 1) := dk_0 a_Ru_enter_23 (dko_27 _)
theorem d_Ru_enter_24 : decode b_Ru_enter 24 = .ok (.iaload, 1) := dk_0 a_Ru_enter_24 (dko_46 _)
theorem d_Ru_enter_25 : decode b_Ru_enter 25 = .ok (.ifCond .lt 15, 3) := dk_S2 a_Ru_enter_25 (dko_155 _) (by decide +kernel)
theorem d_Ru_enter_28 : decode b_Ru_enter 28 = .ok (.aload_n 0, 1) := dk_0 a_Ru_enter_28 (dko_42 _)
theorem d_Ru_enter_29 : decode b_Ru_enter 29 = .ok (.getfield 32, 3) := dk_U2 a_Ru_enter_29 (dko_180 _) rfl
theorem d_Ru_enter_32 : decode b_Ru_enter 32 = .ok (.aload_n 0, 1) := dk_0 a_Ru_enter_32 (dko_42 _)
theorem d_Ru_enter_33 : decode b_Ru_enter 33 = .ok (.getfield 26, 3) := dk_U2 a_Ru_enter_33 (dko_180 _) rfl
theorem d_Ru_enter_36 : decode b_Ru_enter 36 = .ok (.iload_n 1, 1) := dk_0 a_Ru_enter_36 (dko_27 _)
theorem d_Ru_enter_37 : decode b_Ru_enter 37 = .ok (.iaload, 1) := dk_0 a_Ru_enter_37 (dko_46 _)
theorem d_Ru_enter_38 : decode b_Ru_enter 38 = .ok (.iconst 0, 1) := dk_0 a_Ru_enter_38 (dko_3 _)
theorem d_Ru_enter_39 : decode b_Ru_enter 39 = .ok (.iastore, 1) := dk_0 a_Ru_enter_39 (dko_79 _)
theorem d_Ru_enter_40 : decode b_Ru_enter 40 = .ok (.return_, 1) := dk_0 a_Ru_enter_40 (dko_177 _)
set_option maxHeartbeats 4000000 in
set_option maxRecDepth 100000 in
theorem ok_Ru_enter (pc : Nat) : OpS mt mi_Ru_enter pc (cs_Ru_enter pc) := (os_n (os_n (os_n (os_n (os_l (so_aload_n d_Ru_enter_0 rfl)) (os_n (os_l (so_get (C := R_Ru) (T := F_Ru) (N := 21) (j := 9) in_Ru rfl (by decide) mw_522 d_Ru_enter_1)) (os_l (so_iload_n d_Ru_enter_4 rfl)))) (os_n (os_l (so_iconst d_Ru_enter_5 (by decide))) (os_n (os_l (so_iastore d_Ru_enter_6)) (os_l (so_aload_n d_Ru_enter_7 rfl))))) (os_n (os_n (os_l (so_get (C := R_Ru) (T := F_Ru) (N := 21) (j := 10) in_Ru rfl (by decide) mw_523 d_Ru_enter_8)) (os_n (os_l (so_iload_n d_Ru_enter_11 rfl)) (os_l (so_aload_n d_Ru_enter_12 rfl)))) (os_n (os_n (os_l (so_get (C := R_Ru) (T := F_Ru) (N := 21) (j := 7) in_Ru rfl (by decide) mw_520 d_Ru_enter_13)) (os_l (so_iload_n d_Ru_enter_16 rfl))) (os_n (os_l (so_iaload d_Ru_enter_17)) (os_l (so_iastore d_Ru_enter_18)))))) (os_n (os_n (os_n (os_l (so_aload_n d_Ru_enter_19 rfl)) (os_n (os_l (so_get (C := R_Ru) (T := F_Ru) (N := 21) (j := 7) in_Ru rfl (by decide) mw_520 d_Ru_enter_20)) (os_l (so_iload_n d_Ru_enter_23 rfl)))) (os_n (os_n (os_l (so_iaload d_Ru_enter_24)) (os_l (so_iflt d_Ru_enter_25 (by decide)))) (os_n (os_l (so_aload_n d_Ru_enter_28 rfl)) (os_l (so_get (C := R_Ru) (T := F_Ru) (N := 21) (j := 9) in_Ru rfl (by decide) mw_522 d_Ru_enter_29))))) (os_n (os_n (os_l (so_aload_n d_Ru_enter_32 rfl)) (os_n (os_l (so_get (C := R_Ru) (T := F_Ru) (N := 21) (j := 7) in_Ru rfl (by decide) mw_520 d_Ru_enter_33)) (os_l (so_iload_n d_Ru_enter_36 rfl)))) (os_n (os_n (os_l (so_iaload d_Ru_enter_37)) (os_l (so_iconst d_Ru_enter_38 (by decide)))) (os_n (os_l (so_iastore d_Ru_enter_39)) (os_l (so_return rfl d_Ru_enter_40)))))))
abbrev t_Ru_walk_84 : List UInt8 := 177 :: []
abbrev t_Ru_walk_81 : List UInt8 := 181 :: 0 :: 18 :: t_Ru_walk_84
abbrev t_Ru_walk_80 : List UInt8 := 5 :: t_Ru_walk_81
abbrev t_Ru_walk_79 : List UInt8 := 42 :: t_Ru_walk_80
abbrev t_Ru_walk_76 : List UInt8 := 153 :: 0 :: 8 :: t_Ru_walk_79
abbrev t_Ru_walk_73 : List UInt8 := 180 :: 0 :: 89 :: t_Ru_walk_76
abbrev t_Ru_walk_72 : List UInt8 := 42 :: t_Ru_walk_73
abbrev t_Ru_walk_69 : List UInt8 := 154 :: 0 :: 15 :: t_Ru_walk_72
abbrev t_Ru_walk_66 : List UInt8 := 182 :: 0 :: 103 :: t_Ru_walk_69
abbrev t_Ru_walk_65 : List UInt8 := 42 :: t_Ru_walk_66
abbrev t_Ru_walk_62 : List UInt8 := 167 :: 0 :: 22 :: t_Ru_walk_65
abbrev t_Ru_walk_59 : List UInt8 := 181 :: 0 :: 18 :: t_Ru_walk_62
abbrev t_Ru_walk_58 : List UInt8 := 4 :: t_Ru_walk_59
abbrev t_Ru_walk_57 : List UInt8 := 42 :: t_Ru_walk_58
abbrev t_Ru_walk_54 : List UInt8 := 153 :: 0 :: 11 :: t_Ru_walk_57
abbrev t_Ru_walk_53 : List UInt8 := 27 :: t_Ru_walk_54
abbrev t_Ru_walk_52 : List UInt8 := 60 :: t_Ru_walk_53
abbrev t_Ru_walk_51 : List UInt8 := 3 :: t_Ru_walk_52
abbrev t_Ru_walk_48 : List UInt8 := 167 :: 0 :: 4 :: t_Ru_walk_51
abbrev t_Ru_walk_47 : List UInt8 := 4 :: t_Ru_walk_48
abbrev t_Ru_walk_44 : List UInt8 := 153 :: 0 :: 7 :: t_Ru_walk_47
abbrev t_Ru_walk_41 : List UInt8 := 182 :: 0 :: 107 :: t_Ru_walk_44
abbrev t_Ru_walk_40 : List UInt8 := 3 :: t_Ru_walk_41
abbrev t_Ru_walk_39 : List UInt8 := 3 :: t_Ru_walk_40
abbrev t_Ru_walk_38 : List UInt8 := 42 :: t_Ru_walk_39
abbrev t_Ru_walk_35 : List UInt8 := 154 :: 0 :: 16 :: t_Ru_walk_38
abbrev t_Ru_walk_32 : List UInt8 := 182 :: 0 :: 103 :: t_Ru_walk_35
abbrev t_Ru_walk_31 : List UInt8 := 42 :: t_Ru_walk_32
abbrev t_Ru_walk_28 : List UInt8 := 182 :: 0 :: 99 :: t_Ru_walk_31
abbrev t_Ru_walk_27 : List UInt8 := 3 :: t_Ru_walk_28
abbrev t_Ru_walk_26 : List UInt8 := 3 :: t_Ru_walk_27
abbrev t_Ru_walk_25 : List UInt8 := 42 :: t_Ru_walk_26
abbrev t_Ru_walk_22 : List UInt8 := 181 :: 0 :: 96 :: t_Ru_walk_25
abbrev t_Ru_walk_21 : List UInt8 := 3 :: t_Ru_walk_22
abbrev t_Ru_walk_20 : List UInt8 := 42 :: t_Ru_walk_21
abbrev t_Ru_walk_17 : List UInt8 := 181 :: 0 :: 93 :: t_Ru_walk_20
abbrev t_Ru_walk_16 : List UInt8 := 3 :: t_Ru_walk_17
abbrev t_Ru_walk_15 : List UInt8 := 42 :: t_Ru_walk_16
abbrev t_Ru_walk_12 : List UInt8 := 181 :: 0 :: 89 :: t_Ru_walk_15
abbrev t_Ru_walk_11 : List UInt8 := 3 :: t_Ru_walk_12
abbrev t_Ru_walk_10 : List UInt8 := 42 :: t_Ru_walk_11
abbrev t_Ru_walk_7 : List UInt8 := 181 :: 0 :: 85 :: t_Ru_walk_10
abbrev t_Ru_walk_6 : List UInt8 := 97 :: t_Ru_walk_7
abbrev t_Ru_walk_5 : List UInt8 := 10 :: t_Ru_walk_6
abbrev t_Ru_walk_2 : List UInt8 := 180 :: 0 :: 85 :: t_Ru_walk_5
abbrev t_Ru_walk_1 : List UInt8 := 89 :: t_Ru_walk_2
abbrev t_Ru_walk_0 : List UInt8 := 42 :: t_Ru_walk_1
theorem a_Ru_walk_0 : dk_at b_Ru_walk 0 t_Ru_walk_0 := dk_start (by decide +kernel)
theorem a_Ru_walk_1 : dk_at b_Ru_walk 1 t_Ru_walk_1 := dk_go 1 a_Ru_walk_0 rfl
theorem a_Ru_walk_2 : dk_at b_Ru_walk 2 t_Ru_walk_2 := dk_go 1 a_Ru_walk_1 rfl
theorem a_Ru_walk_5 : dk_at b_Ru_walk 5 t_Ru_walk_5 := dk_go 3 a_Ru_walk_2 rfl
theorem a_Ru_walk_6 : dk_at b_Ru_walk 6 t_Ru_walk_6 := dk_go 1 a_Ru_walk_5 rfl
theorem a_Ru_walk_7 : dk_at b_Ru_walk 7 t_Ru_walk_7 := dk_go 1 a_Ru_walk_6 rfl
theorem a_Ru_walk_10 : dk_at b_Ru_walk 10 t_Ru_walk_10 := dk_go 3 a_Ru_walk_7 rfl
theorem a_Ru_walk_11 : dk_at b_Ru_walk 11 t_Ru_walk_11 := dk_go 1 a_Ru_walk_10 rfl
theorem a_Ru_walk_12 : dk_at b_Ru_walk 12 t_Ru_walk_12 := dk_go 1 a_Ru_walk_11 rfl
theorem a_Ru_walk_15 : dk_at b_Ru_walk 15 t_Ru_walk_15 := dk_go 3 a_Ru_walk_12 rfl
theorem a_Ru_walk_16 : dk_at b_Ru_walk 16 t_Ru_walk_16 := dk_go 1 a_Ru_walk_15 rfl
theorem a_Ru_walk_17 : dk_at b_Ru_walk 17 t_Ru_walk_17 := dk_go 1 a_Ru_walk_16 rfl
theorem a_Ru_walk_20 : dk_at b_Ru_walk 20 t_Ru_walk_20 := dk_go 3 a_Ru_walk_17 rfl
theorem a_Ru_walk_21 : dk_at b_Ru_walk 21 t_Ru_walk_21 := dk_go 1 a_Ru_walk_20 rfl
theorem a_Ru_walk_22 : dk_at b_Ru_walk 22 t_Ru_walk_22 := dk_go 1 a_Ru_walk_21 rfl
theorem a_Ru_walk_25 : dk_at b_Ru_walk 25 t_Ru_walk_25 := dk_go 3 a_Ru_walk_22 rfl
theorem a_Ru_walk_26 : dk_at b_Ru_walk 26 t_Ru_walk_26 := dk_go 1 a_Ru_walk_25 rfl
theorem a_Ru_walk_27 : dk_at b_Ru_walk 27 t_Ru_walk_27 := dk_go 1 a_Ru_walk_26 rfl
theorem a_Ru_walk_28 : dk_at b_Ru_walk 28 t_Ru_walk_28 := dk_go 1 a_Ru_walk_27 rfl
theorem a_Ru_walk_31 : dk_at b_Ru_walk 31 t_Ru_walk_31 := dk_go 3 a_Ru_walk_28 rfl
theorem a_Ru_walk_32 : dk_at b_Ru_walk 32 t_Ru_walk_32 := dk_go 1 a_Ru_walk_31 rfl
theorem a_Ru_walk_35 : dk_at b_Ru_walk 35 t_Ru_walk_35 := dk_go 3 a_Ru_walk_32 rfl
theorem a_Ru_walk_38 : dk_at b_Ru_walk 38 t_Ru_walk_38 := dk_go 3 a_Ru_walk_35 rfl
theorem a_Ru_walk_39 : dk_at b_Ru_walk 39 t_Ru_walk_39 := dk_go 1 a_Ru_walk_38 rfl
theorem a_Ru_walk_40 : dk_at b_Ru_walk 40 t_Ru_walk_40 := dk_go 1 a_Ru_walk_39 rfl
theorem a_Ru_walk_41 : dk_at b_Ru_walk 41 t_Ru_walk_41 := dk_go 1 a_Ru_walk_40 rfl
theorem a_Ru_walk_44 : dk_at b_Ru_walk 44 t_Ru_walk_44 := dk_go 3 a_Ru_walk_41 rfl
theorem a_Ru_walk_47 : dk_at b_Ru_walk 47 t_Ru_walk_47 := dk_go 3 a_Ru_walk_44 rfl
theorem a_Ru_walk_48 : dk_at b_Ru_walk 48 t_Ru_walk_48 := dk_go 1 a_Ru_walk_47 rfl
theorem a_Ru_walk_51 : dk_at b_Ru_walk 51 t_Ru_walk_51 := dk_go 3 a_Ru_walk_48 rfl
theorem a_Ru_walk_52 : dk_at b_Ru_walk 52 t_Ru_walk_52 := dk_go 1 a_Ru_walk_51 rfl
theorem a_Ru_walk_53 : dk_at b_Ru_walk 53 t_Ru_walk_53 := dk_go 1 a_Ru_walk_52 rfl
theorem a_Ru_walk_54 : dk_at b_Ru_walk 54 t_Ru_walk_54 := dk_go 1 a_Ru_walk_53 rfl
theorem a_Ru_walk_57 : dk_at b_Ru_walk 57 t_Ru_walk_57 := dk_go 3 a_Ru_walk_54 rfl
theorem a_Ru_walk_58 : dk_at b_Ru_walk 58 t_Ru_walk_58 := dk_go 1 a_Ru_walk_57 rfl
theorem a_Ru_walk_59 : dk_at b_Ru_walk 59 t_Ru_walk_59 := dk_go 1 a_Ru_walk_58 rfl
theorem a_Ru_walk_62 : dk_at b_Ru_walk 62 t_Ru_walk_62 := dk_go 3 a_Ru_walk_59 rfl
theorem a_Ru_walk_65 : dk_at b_Ru_walk 65 t_Ru_walk_65 := dk_go 3 a_Ru_walk_62 rfl
theorem a_Ru_walk_66 : dk_at b_Ru_walk 66 t_Ru_walk_66 := dk_go 1 a_Ru_walk_65 rfl
theorem a_Ru_walk_69 : dk_at b_Ru_walk 69 t_Ru_walk_69 := dk_go 3 a_Ru_walk_66 rfl
theorem a_Ru_walk_72 : dk_at b_Ru_walk 72 t_Ru_walk_72 := dk_go 3 a_Ru_walk_69 rfl
theorem a_Ru_walk_73 : dk_at b_Ru_walk 73 t_Ru_walk_73 := dk_go 1 a_Ru_walk_72 rfl
theorem a_Ru_walk_76 : dk_at b_Ru_walk 76 t_Ru_walk_76 := dk_go 3 a_Ru_walk_73 rfl
theorem a_Ru_walk_79 : dk_at b_Ru_walk 79 t_Ru_walk_79 := dk_go 3 a_Ru_walk_76 rfl
theorem a_Ru_walk_80 : dk_at b_Ru_walk 80 t_Ru_walk_80 := dk_go 1 a_Ru_walk_79 rfl
theorem a_Ru_walk_81 : dk_at b_Ru_walk 81 t_Ru_walk_81 := dk_go 1 a_Ru_walk_80 rfl
theorem a_Ru_walk_84 : dk_at b_Ru_walk 84 t_Ru_walk_84 := dk_go 3 a_Ru_walk_81 rfl
theorem d_Ru_walk_0 : decode b_Ru_walk 0 = .ok (.aload_n 0, 1) := dk_0 a_Ru_walk_0 (dko_42 _)
theorem d_Ru_walk_1 : decode b_Ru_walk 1 = .ok (.dup, 1) := dk_0 a_Ru_walk_1 (dko_89 _)
theorem d_Ru_walk_2 : decode b_Ru_walk 2 = .ok (.getfield 85, 3) := dk_U2 a_Ru_walk_2 (dko_180 _) rfl
theorem d_Ru_walk_5 : decode b_Ru_walk 5 = .ok (.lconst 1, 1) := dk_0 a_Ru_walk_5 (dko_10 _)
theorem d_Ru_walk_6 : decode b_Ru_walk 6 = .ok (.ladd, 1) := dk_0 a_Ru_walk_6 (dko_97 _)
theorem d_Ru_walk_7 : decode b_Ru_walk 7 = .ok (.putfield 85, 3) := dk_U2 a_Ru_walk_7 (dko_181 _) rfl
theorem d_Ru_walk_10 : decode b_Ru_walk 10 = .ok (.aload_n 0, 1) := dk_0 a_Ru_walk_10 (dko_42 _)
theorem d_Ru_walk_11 : decode b_Ru_walk 11 = .ok (.iconst 0, 1) := dk_0 a_Ru_walk_11 (dko_3 _)
theorem d_Ru_walk_12 : decode b_Ru_walk 12 = .ok (.putfield 89, 3) := dk_U2 a_Ru_walk_12 (dko_181 _) rfl
theorem d_Ru_walk_15 : decode b_Ru_walk 15 = .ok (.aload_n 0, 1) := dk_0 a_Ru_walk_15 (dko_42 _)
theorem d_Ru_walk_16 : decode b_Ru_walk 16 = .ok (.iconst 0, 1) := dk_0 a_Ru_walk_16 (dko_3 _)
theorem d_Ru_walk_17 : decode b_Ru_walk 17 = .ok (.putfield 93, 3) := dk_U2 a_Ru_walk_17 (dko_181 _) rfl
theorem d_Ru_walk_20 : decode b_Ru_walk 20 = .ok (.aload_n 0, 1) := dk_0 a_Ru_walk_20 (dko_42 _)
theorem d_Ru_walk_21 : decode b_Ru_walk 21 = .ok (.iconst 0, 1) := dk_0 a_Ru_walk_21 (dko_3 _)
theorem d_Ru_walk_22 : decode b_Ru_walk 22 = .ok (.putfield 96, 3) := dk_U2 a_Ru_walk_22 (dko_181 _) rfl
theorem d_Ru_walk_25 : decode b_Ru_walk 25 = .ok (.aload_n 0, 1) := dk_0 a_Ru_walk_25 (dko_42 _)
theorem d_Ru_walk_26 : decode b_Ru_walk 26 = .ok (.iconst 0, 1) := dk_0 a_Ru_walk_26 (dko_3 _)
theorem d_Ru_walk_27 : decode b_Ru_walk 27 = .ok (.iconst 0, 1) := dk_0 a_Ru_walk_27 (dko_3 _)
theorem d_Ru_walk_28 : decode b_Ru_walk 28 = .ok (.invokevirtual 99, 3) := dk_U2 a_Ru_walk_28 (dko_182 _) rfl
theorem d_Ru_walk_31 : decode b_Ru_walk 31 = .ok (.aload_n 0, 1) := dk_0 a_Ru_walk_31 (dko_42 _)
theorem d_Ru_walk_32 : decode b_Ru_walk 32 = .ok (.invokevirtual 103, 3) := dk_U2 a_Ru_walk_32 (dko_182 _) rfl
theorem d_Ru_walk_35 : decode b_Ru_walk 35 = .ok (.ifCond .ne 16, 3) := dk_S2 a_Ru_walk_35 (dko_154 _) (by decide +kernel)
theorem d_Ru_walk_38 : decode b_Ru_walk 38 = .ok (.aload_n 0, 1) := dk_0 a_Ru_walk_38 (dko_42 _)
theorem d_Ru_walk_39 : decode b_Ru_walk 39 = .ok (.iconst 0, 1) := dk_0 a_Ru_walk_39 (dko_3 _)
theorem d_Ru_walk_40 : decode b_Ru_walk 40 = .ok (.iconst 0, 1) := dk_0 a_Ru_walk_40 (dko_3 _)
theorem d_Ru_walk_41 : decode b_Ru_walk 41 = .ok (.invokevirtual 107, 3) := dk_U2 a_Ru_walk_41 (dko_182 _) rfl
theorem d_Ru_walk_44 : decode b_Ru_walk 44 = .ok (.ifCond .eq 7, 3) := dk_S2 a_Ru_walk_44 (dko_153 _) (by decide +kernel)
theorem d_Ru_walk_47 : decode b_Ru_walk 47 = .ok (.iconst 1, 1) := dk_0 a_Ru_walk_47 (dko_4 _)
theorem d_Ru_walk_48 : decode b_Ru_walk 48 = .ok (.goto 4, 3) := dk_S2 a_Ru_walk_48 (dko_167 _) (by decide +kernel)
theorem d_Ru_walk_51 : decode b_Ru_walk 51 = .ok (.iconst 0, 1) := dk_0 a_Ru_walk_51 (dko_3 _)
theorem d_Ru_walk_52 : decode b_Ru_walk 52 = .ok (.istore_n 1, 1) := dk_0 a_Ru_walk_52 (dko_60 _)
theorem d_Ru_walk_53 : decode b_Ru_walk 53 = .ok (.iload_n 1, 1) := dk_0 a_Ru_walk_53 (dko_27 _)
theorem d_Ru_walk_54 : decode b_Ru_walk 54 = .ok (.ifCond .eq 11, 3) := dk_S2 a_Ru_walk_54 (dko_153 _) (by decide +kernel)
theorem d_Ru_walk_57 : decode b_Ru_walk 57 = .ok (.aload_n 0, 1) := dk_0 a_Ru_walk_57 (dko_42 _)
theorem d_Ru_walk_58 : decode b_Ru_walk 58 = .ok (.iconst 1, 1) := dk_0 a_Ru_walk_58 (dko_4 _)
theorem d_Ru_walk_59 : decode b_Ru_walk 59 = .ok (.putfield 18, 3) := dk_U2 a_Ru_walk_59 (dko_181 _) rfl
theorem d_Ru_walk_62 : decode b_Ru_walk 62 = .ok (.goto 22, 3) := dk_S2 a_Ru_walk_62 (dko_167 _) (by decide +kernel)
theorem d_Ru_walk_65 : decode b_Ru_walk 65 = .ok (.aload_n 0, 1) := dk_0 a_Ru_walk_65 (dko_42 _)
theorem d_Ru_walk_66 : decode b_Ru_walk 66 = .ok (.invokevirtual 103, 3) := dk_U2 a_Ru_walk_66 (dko_182 _) rfl
theorem d_Ru_walk_69 : decode b_Ru_walk 69 = .ok (.ifCond .ne 15, 3) := dk_S2 a_Ru_walk_69 (dko_154 _) (by decide +kernel)
theorem d_Ru_walk_72 : decode b_Ru_walk 72 = .ok (.aload_n 0, 1) := dk_0 a_Ru_walk_72 (dko_42 _)
theorem d_Ru_walk_73 : decode b_Ru_walk 73 = .ok (.getfield 89, 3) := dk_U2 a_Ru_walk_73 (dko_180 _) rfl
theorem d_Ru_walk_76 : decode b_Ru_walk 76 = .ok (.ifCond .eq 8, 3) := dk_S2 a_Ru_walk_76 (dko_153 _) (by decide +kernel)
theorem d_Ru_walk_79 : decode b_Ru_walk 79 = .ok (.aload_n 0, 1) := dk_0 a_Ru_walk_79 (dko_42 _)
theorem d_Ru_walk_80 : decode b_Ru_walk 80 = .ok (.iconst 2, 1) := dk_0 a_Ru_walk_80 (dko_5 _)
theorem d_Ru_walk_81 : decode b_Ru_walk 81 = .ok (.putfield 18, 3) := dk_U2 a_Ru_walk_81 (dko_181 _) rfl
theorem d_Ru_walk_84 : decode b_Ru_walk 84 = .ok (.return_, 1) := dk_0 a_Ru_walk_84 (dko_177 _)
set_option maxHeartbeats 4000000 in
set_option maxRecDepth 100000 in
theorem ok_Ru_walk (pc : Nat) : OpS mt mi_Ru_walk pc (cs_Ru_walk pc) := (os_n (os_n (os_n (os_n (os_n (os_l (so_aload_n d_Ru_walk_0 rfl)) (os_l (so_dup d_Ru_walk_1))) (os_n (os_l (so_get (C := R_Ru) (T := F_Ru) (N := 21) (j := 17) in_Ru rfl (by decide) mw_530 d_Ru_walk_2)) (os_n (os_l (so_lconst d_Ru_walk_5 (by decide))) (os_l (so_ladd d_Ru_walk_6))))) (os_n (os_n (os_l (so_putJ (C := R_Ru) (T := F_Ru) (N := 21) (j := 17) in_Ru t_Ru_ok n_Ru rfl (by decide) mw_530 rfl (by decide +kernel) d_Ru_walk_7)) (os_n (os_l (so_aload_n d_Ru_walk_10 rfl)) (os_l (so_iconst d_Ru_walk_11 (by decide))))) (os_n (os_l (so_putZ (C := R_Ru) (T := F_Ru) (N := 21) (j := 18) in_Ru t_Ru_ok n_Ru rfl (by decide) mw_531 rfl (by decide +kernel) d_Ru_walk_12)) (os_n (os_l (so_aload_n d_Ru_walk_15 rfl)) (os_l (so_iconst d_Ru_walk_16 (by decide))))))) (os_n (os_n (os_n (os_l (so_putI (C := R_Ru) (T := F_Ru) (N := 21) (j := 19) in_Ru t_Ru_ok n_Ru rfl (by decide) mw_532 rfl (by decide +kernel) d_Ru_walk_17)) (os_n (os_l (so_aload_n d_Ru_walk_20 rfl)) (os_l (so_iconst d_Ru_walk_21 (by decide))))) (os_n (os_l (so_putI (C := R_Ru) (T := F_Ru) (N := 21) (j := 20) in_Ru t_Ru_ok n_Ru rfl (by decide) mw_533 rfl (by decide +kernel) d_Ru_walk_22)) (os_n (os_l (so_aload_n d_Ru_walk_25 rfl)) (os_l (so_iconst d_Ru_walk_26 (by decide)))))) (os_n (os_n (os_l (so_iconst d_Ru_walk_27 (by decide))) (os_n (os_l (so_callV (iv := mi_Ru_lookAtLimits) rfl rfl rfl mw_1345 mw_1347 sl_64 mw_11 mw_1348 ⟨by decide +kernel, by decide +kernel, by decide +kernel⟩ (by decide) d_Ru_walk_28)) (os_l (so_aload_n d_Ru_walk_31 rfl)))) (os_n (os_l (so_callV (iv := mi_Ru_isOver) rfl rfl rfl mw_1349 mw_1351 sl_65 mw_11 mw_1352 ⟨by decide +kernel, by decide +kernel, by decide +kernel⟩ (by decide) d_Ru_walk_32)) (os_n (os_l (so_ifne d_Ru_walk_35 (by decide))) (os_l (so_aload_n d_Ru_walk_38 rfl))))))) (os_n (os_n (os_n (os_n (os_l (so_iconst d_Ru_walk_39 (by decide))) (os_n (os_l (so_iconst d_Ru_walk_40 (by decide))) (os_l (so_callV (iv := mi_Ru_goOn) rfl rfl rfl mw_1374 mw_1376 sl_70 mw_11 mw_1377 ⟨by decide +kernel, by decide +kernel, by decide +kernel⟩ (by decide) d_Ru_walk_41)))) (os_n (os_l (so_ifeq d_Ru_walk_44 (by decide))) (os_n (os_l (so_iconst d_Ru_walk_47 (by decide))) (os_l (so_goto d_Ru_walk_48 (by decide)))))) (os_n (os_n (os_l (so_iconst d_Ru_walk_51 (by decide))) (os_n (os_l (so_istore_n d_Ru_walk_52 rfl (by decide))) (os_l (so_iload_n d_Ru_walk_53 rfl)))) (os_n (os_l (so_ifeq d_Ru_walk_54 (by decide))) (os_n (os_l (so_aload_n d_Ru_walk_57 rfl)) (os_l (so_iconst d_Ru_walk_58 (by decide))))))) (os_n (os_n (os_n (os_l (so_putI (C := R_Ru) (T := F_Ru) (N := 21) (j := 4) in_Ru t_Ru_ok n_Ru rfl (by decide) mw_516 rfl (by decide +kernel) d_Ru_walk_59)) (os_n (os_l (so_goto d_Ru_walk_62 (by decide))) (os_l (so_aload_n d_Ru_walk_65 rfl)))) (os_n (os_l (so_callV (iv := mi_Ru_isOver) rfl rfl rfl mw_1349 mw_1351 sl_65 mw_11 mw_1352 ⟨by decide +kernel, by decide +kernel, by decide +kernel⟩ (by decide) d_Ru_walk_66)) (os_n (os_l (so_ifne d_Ru_walk_69 (by decide))) (os_l (so_aload_n d_Ru_walk_72 rfl))))) (os_n (os_n (os_l (so_get (C := R_Ru) (T := F_Ru) (N := 21) (j := 18) in_Ru rfl (by decide) mw_531 d_Ru_walk_73)) (os_n (os_l (so_ifeq d_Ru_walk_76 (by decide))) (os_l (so_aload_n d_Ru_walk_79 rfl)))) (os_n (os_l (so_iconst d_Ru_walk_80 (by decide))) (os_n (os_l (so_putI (C := R_Ru) (T := F_Ru) (N := 21) (j := 4) in_Ru t_Ru_ok n_Ru rfl (by decide) mw_516 rfl (by decide +kernel) d_Ru_walk_81)) (os_l (so_return rfl d_Ru_walk_84))))))))
abbrev t_Ru_isOver_12 : List UInt8 := 172 :: []
abbrev t_Ru_isOver_11 : List UInt8 := 3 :: t_Ru_isOver_12
abbrev t_Ru_isOver_8 : List UInt8 := 167 :: 0 :: 4 :: t_Ru_isOver_11
abbrev t_Ru_isOver_7 : List UInt8 := 4 :: t_Ru_isOver_8
abbrev t_Ru_isOver_4 : List UInt8 := 153 :: 0 :: 7 :: t_Ru_isOver_7
abbrev t_Ru_isOver_1 : List UInt8 := 180 :: 0 :: 18 :: t_Ru_isOver_4
abbrev t_Ru_isOver_0 : List UInt8 := 42 :: t_Ru_isOver_1
theorem a_Ru_isOver_0 : dk_at b_Ru_isOver 0 t_Ru_isOver_0 := dk_start (by decide +kernel)
theorem a_Ru_isOver_1 : dk_at b_Ru_isOver 1 t_Ru_isOver_1 := dk_go 1 a_Ru_isOver_0 rfl
theorem a_Ru_isOver_4 : dk_at b_Ru_isOver 4 t_Ru_isOver_4 := dk_go 3 a_Ru_isOver_1 rfl
theorem a_Ru_isOver_7 : dk_at b_Ru_isOver 7 t_Ru_isOver_7 := dk_go 3 a_Ru_isOver_4 rfl
theorem a_Ru_isOver_8 : dk_at b_Ru_isOver 8 t_Ru_isOver_8 := dk_go 1 a_Ru_isOver_7 rfl
theorem a_Ru_isOver_11 : dk_at b_Ru_isOver 11 t_Ru_isOver_11 := dk_go 3 a_Ru_isOver_8 rfl
theorem a_Ru_isOver_12 : dk_at b_Ru_isOver 12 t_Ru_isOver_12 := dk_go 1 a_Ru_isOver_11 rfl
theorem d_Ru_isOver_0 : decode b_Ru_isOver 0 = .ok (.aload_n 0, 1) := dk_0 a_Ru_isOver_0 (dko_42 _)
theorem d_Ru_isOver_1 : decode b_Ru_isOver 1 = .ok (.getfield 18, 3) := dk_U2 a_Ru_isOver_1 (dko_180 _) rfl
theorem d_Ru_isOver_4 : decode b_Ru_isOver 4 = .ok (.ifCond .eq 7, 3) := dk_S2 a_Ru_isOver_4 (dko_153 _) (by decide +kernel)
theorem d_Ru_isOver_7 : decode b_Ru_isOver 7 = .ok (.iconst 1, 1) := dk_0 a_Ru_isOver_7 (dko_4 _)
theorem d_Ru_isOver_8 : decode b_Ru_isOver 8 = .ok (.goto 4, 3) := dk_S2 a_Ru_isOver_8 (dko_167 _) (by decide +kernel)
theorem d_Ru_isOver_11 : decode b_Ru_isOver 11 = .ok (.iconst 0, 1) := dk_0 a_Ru_isOver_11 (dko_3 _)
theorem d_Ru_isOver_12 : decode b_Ru_isOver 12 = .ok (.ireturn, 1) := dk_0 a_Ru_isOver_12 (dko_172 _)
set_option maxHeartbeats 4000000 in
set_option maxRecDepth 100000 in
theorem ok_Ru_isOver (pc : Nat) : OpS mt mi_Ru_isOver pc (cs_Ru_isOver pc) := (os_n (os_n (os_l (so_aload_n d_Ru_isOver_0 rfl)) (os_n (os_l (so_get (C := R_Ru) (T := F_Ru) (N := 21) (j := 4) in_Ru rfl (by decide) mw_516 d_Ru_isOver_1)) (os_l (so_ifeq d_Ru_isOver_4 (by decide))))) (os_n (os_n (os_l (so_iconst d_Ru_isOver_7 (by decide))) (os_l (so_goto d_Ru_isOver_8 (by decide)))) (os_n (os_l (so_iconst d_Ru_isOver_11 (by decide))) (os_l (so_zreturn rfl d_Ru_isOver_12)))))
abbrev t_Ru_fault_21 : List UInt8 := 177 :: []
abbrev t_Ru_fault_18 : List UInt8 := 181 :: 0 :: 18 :: t_Ru_fault_21
abbrev t_Ru_fault_17 : List UInt8 := 5 :: t_Ru_fault_18
abbrev t_Ru_fault_16 : List UInt8 := 42 :: t_Ru_fault_17
abbrev t_Ru_fault_13 : List UInt8 := 182 :: 0 :: 116 :: t_Ru_fault_16
abbrev t_Ru_fault_12 : List UInt8 := 27 :: t_Ru_fault_13
abbrev t_Ru_fault_11 : List UInt8 := 28 :: t_Ru_fault_12
abbrev t_Ru_fault_8 : List UInt8 := 180 :: 0 :: 111 :: t_Ru_fault_11
abbrev t_Ru_fault_5 : List UInt8 := 180 :: 0 :: 62 :: t_Ru_fault_8
abbrev t_Ru_fault_4 : List UInt8 := 42 :: t_Ru_fault_5
abbrev t_Ru_fault_1 : List UInt8 := 180 :: 0 :: 58 :: t_Ru_fault_4
abbrev t_Ru_fault_0 : List UInt8 := 42 :: t_Ru_fault_1
theorem a_Ru_fault_0 : dk_at b_Ru_fault 0 t_Ru_fault_0 := dk_start (by decide +kernel)
theorem a_Ru_fault_1 : dk_at b_Ru_fault 1 t_Ru_fault_1 := dk_go 1 a_Ru_fault_0 rfl
theorem a_Ru_fault_4 : dk_at b_Ru_fault 4 t_Ru_fault_4 := dk_go 3 a_Ru_fault_1 rfl
theorem a_Ru_fault_5 : dk_at b_Ru_fault 5 t_Ru_fault_5 := dk_go 1 a_Ru_fault_4 rfl
theorem a_Ru_fault_8 : dk_at b_Ru_fault 8 t_Ru_fault_8 := dk_go 3 a_Ru_fault_5 rfl
theorem a_Ru_fault_11 : dk_at b_Ru_fault 11 t_Ru_fault_11 := dk_go 3 a_Ru_fault_8 rfl
theorem a_Ru_fault_12 : dk_at b_Ru_fault 12 t_Ru_fault_12 := dk_go 1 a_Ru_fault_11 rfl
theorem a_Ru_fault_13 : dk_at b_Ru_fault 13 t_Ru_fault_13 := dk_go 1 a_Ru_fault_12 rfl
theorem a_Ru_fault_16 : dk_at b_Ru_fault 16 t_Ru_fault_16 := dk_go 3 a_Ru_fault_13 rfl
theorem a_Ru_fault_17 : dk_at b_Ru_fault 17 t_Ru_fault_17 := dk_go 1 a_Ru_fault_16 rfl
theorem a_Ru_fault_18 : dk_at b_Ru_fault 18 t_Ru_fault_18 := dk_go 1 a_Ru_fault_17 rfl
theorem a_Ru_fault_21 : dk_at b_Ru_fault 21 t_Ru_fault_21 := dk_go 3 a_Ru_fault_18 rfl
theorem d_Ru_fault_0 : decode b_Ru_fault 0 = .ok (.aload_n 0, 1) := dk_0 a_Ru_fault_0 (dko_42 _)
theorem d_Ru_fault_1 : decode b_Ru_fault 1 = .ok (.getfield 58, 3) := dk_U2 a_Ru_fault_1 (dko_180 _) rfl
theorem d_Ru_fault_4 : decode b_Ru_fault 4 = .ok (.aload_n 0, 1) := dk_0 a_Ru_fault_4 (dko_42 _)
theorem d_Ru_fault_5 : decode b_Ru_fault 5 = .ok (.getfield 62, 3) := dk_U2 a_Ru_fault_5 (dko_180 _) rfl
theorem d_Ru_fault_8 : decode b_Ru_fault 8 = .ok (.getfield 111, 3) := dk_U2 a_Ru_fault_8 (dko_180 _) rfl
theorem d_Ru_fault_11 : decode b_Ru_fault 11 = .ok (.iload_n 2, 1) := dk_0 a_Ru_fault_11 (dko_28 _)
theorem d_Ru_fault_12 : decode b_Ru_fault 12 = .ok (.iload_n 1, 1) := dk_0 a_Ru_fault_12 (dko_27 _)
theorem d_Ru_fault_13 : decode b_Ru_fault 13 = .ok (.invokevirtual 116, 3) := dk_U2 a_Ru_fault_13 (dko_182 _) rfl
theorem d_Ru_fault_16 : decode b_Ru_fault 16 = .ok (.aload_n 0, 1) := dk_0 a_Ru_fault_16 (dko_42 _)
theorem d_Ru_fault_17 : decode b_Ru_fault 17 = .ok (.iconst 2, 1) := dk_0 a_Ru_fault_17 (dko_5 _)
theorem d_Ru_fault_18 : decode b_Ru_fault 18 = .ok (.putfield 18, 3) := dk_U2 a_Ru_fault_18 (dko_181 _) rfl
theorem d_Ru_fault_21 : decode b_Ru_fault 21 = .ok (.return_, 1) := dk_0 a_Ru_fault_21 (dko_177 _)
set_option maxHeartbeats 4000000 in
set_option maxRecDepth 100000 in
theorem ok_Ru_fault (pc : Nat) : OpS mt mi_Ru_fault pc (cs_Ru_fault pc) := (os_n (os_n (os_n (os_l (so_aload_n d_Ru_fault_0 rfl)) (os_n (os_l (so_get (C := R_Ru) (T := F_Ru) (N := 21) (j := 1) in_Ru rfl (by decide) mw_512 d_Ru_fault_1)) (os_l (so_aload_n d_Ru_fault_4 rfl)))) (os_n (os_l (so_get (C := R_Ru) (T := F_Ru) (N := 21) (j := 2) in_Ru rfl (by decide) mw_513 d_Ru_fault_5)) (os_n (os_l (so_get (C := R_St) (T := F_St) (N := 12) (j := 1) in_St rfl (by decide) mw_154 d_Ru_fault_8)) (os_l (so_iload_n d_Ru_fault_11 rfl))))) (os_n (os_n (os_l (so_iload_n d_Ru_fault_12 rfl)) (os_n (os_l (so_callV (iv := mi_Al_add) rfl rfl rfl mw_1365 mw_1290 mw_1291 mw_3 mw_1292 ⟨by decide +kernel, by decide +kernel, by decide +kernel⟩ (by decide) d_Ru_fault_13)) (os_l (so_aload_n d_Ru_fault_16 rfl)))) (os_n (os_l (so_iconst d_Ru_fault_17 (by decide))) (os_n (os_l (so_putI (C := R_Ru) (T := F_Ru) (N := 21) (j := 4) in_Ru t_Ru_ok n_Ru rfl (by decide) mw_516 rfl (by decide +kernel) d_Ru_fault_18)) (os_l (so_return rfl d_Ru_fault_21))))))
abbrev t_Ru_lookAtLimits_179 : List UInt8 := 177 :: []
abbrev t_Ru_lookAtLimits_176 : List UInt8 := 167 :: 255 :: 222 :: t_Ru_lookAtLimits_179
abbrev t_Ru_lookAtLimits_173 : List UInt8 := 132 :: 6 :: 1 :: t_Ru_lookAtLimits_176
abbrev t_Ru_lookAtLimits_171 : List UInt8 := 54 :: 5 :: t_Ru_lookAtLimits_173
abbrev t_Ru_lookAtLimits_170 : List UInt8 := 46 :: t_Ru_lookAtLimits_171
abbrev t_Ru_lookAtLimits_168 : List UInt8 := 21 :: 5 :: t_Ru_lookAtLimits_170
abbrev t_Ru_lookAtLimits_165 : List UInt8 := 180 :: 0 :: 29 :: t_Ru_lookAtLimits_168
abbrev t_Ru_lookAtLimits_164 : List UInt8 := 42 :: t_Ru_lookAtLimits_165
abbrev t_Ru_lookAtLimits_161 : List UInt8 := 182 :: 0 :: 99 :: t_Ru_lookAtLimits_164
abbrev t_Ru_lookAtLimits_160 : List UInt8 := 96 :: t_Ru_lookAtLimits_161
abbrev t_Ru_lookAtLimits_159 : List UInt8 := 4 :: t_Ru_lookAtLimits_160
abbrev t_Ru_lookAtLimits_158 : List UInt8 := 28 :: t_Ru_lookAtLimits_159
abbrev t_Ru_lookAtLimits_156 : List UInt8 := 21 :: 5 :: t_Ru_lookAtLimits_158
abbrev t_Ru_lookAtLimits_155 : List UInt8 := 42 :: t_Ru_lookAtLimits_156
abbrev t_Ru_lookAtLimits_152 : List UInt8 := 155 :: 0 :: 27 :: t_Ru_lookAtLimits_155
abbrev t_Ru_lookAtLimits_150 : List UInt8 := 21 :: 5 :: t_Ru_lookAtLimits_152
abbrev t_Ru_lookAtLimits_147 : List UInt8 := 163 :: 0 :: 32 :: t_Ru_lookAtLimits_150
abbrev t_Ru_lookAtLimits_144 : List UInt8 := 17 :: 1 :: 244 :: t_Ru_lookAtLimits_147
abbrev t_Ru_lookAtLimits_142 : List UInt8 := 21 :: 6 :: t_Ru_lookAtLimits_144
abbrev t_Ru_lookAtLimits_140 : List UInt8 := 54 :: 6 :: t_Ru_lookAtLimits_142
abbrev t_Ru_lookAtLimits_139 : List UInt8 := 3 :: t_Ru_lookAtLimits_140
abbrev t_Ru_lookAtLimits_137 : List UInt8 := 54 :: 5 :: t_Ru_lookAtLimits_139
abbrev t_Ru_lookAtLimits_136 : List UInt8 := 2 :: t_Ru_lookAtLimits_137
abbrev t_Ru_lookAtLimits_133 : List UInt8 := 167 :: 0 :: 4 :: t_Ru_lookAtLimits_136
abbrev t_Ru_lookAtLimits_132 : List UInt8 := 46 :: t_Ru_lookAtLimits_133
abbrev t_Ru_lookAtLimits_131 : List UInt8 := 29 :: t_Ru_lookAtLimits_132
abbrev t_Ru_lookAtLimits_128 : List UInt8 := 180 :: 0 :: 26 :: t_Ru_lookAtLimits_131
abbrev t_Ru_lookAtLimits_127 : List UInt8 := 42 :: t_Ru_lookAtLimits_128
abbrev t_Ru_lookAtLimits_124 : List UInt8 := 160 :: 0 :: 12 :: t_Ru_lookAtLimits_127
abbrev t_Ru_lookAtLimits_122 : List UInt8 := 16 :: 16 :: t_Ru_lookAtLimits_124
abbrev t_Ru_lookAtLimits_120 : List UInt8 := 21 :: 4 :: t_Ru_lookAtLimits_122
abbrev t_Ru_lookAtLimits_117 : List UInt8 := 182 :: 0 :: 99 :: t_Ru_lookAtLimits_120
abbrev t_Ru_lookAtLimits_116 : List UInt8 := 96 :: t_Ru_lookAtLimits_117
abbrev t_Ru_lookAtLimits_115 : List UInt8 := 4 :: t_Ru_lookAtLimits_116
abbrev t_Ru_lookAtLimits_114 : List UInt8 := 28 :: t_Ru_lookAtLimits_115
abbrev t_Ru_lookAtLimits_113 : List UInt8 := 46 :: t_Ru_lookAtLimits_114
abbrev t_Ru_lookAtLimits_112 : List UInt8 := 29 :: t_Ru_lookAtLimits_113
abbrev t_Ru_lookAtLimits_109 : List UInt8 := 180 :: 0 :: 35 :: t_Ru_lookAtLimits_112
abbrev t_Ru_lookAtLimits_108 : List UInt8 := 42 :: t_Ru_lookAtLimits_109
abbrev t_Ru_lookAtLimits_107 : List UInt8 := 42 :: t_Ru_lookAtLimits_108
abbrev t_Ru_lookAtLimits_104 : List UInt8 := 155 :: 0 :: 16 :: t_Ru_lookAtLimits_107
abbrev t_Ru_lookAtLimits_103 : List UInt8 := 46 :: t_Ru_lookAtLimits_104
abbrev t_Ru_lookAtLimits_102 : List UInt8 := 29 :: t_Ru_lookAtLimits_103
abbrev t_Ru_lookAtLimits_99 : List UInt8 := 180 :: 0 :: 35 :: t_Ru_lookAtLimits_102
abbrev t_Ru_lookAtLimits_98 : List UInt8 := 42 :: t_Ru_lookAtLimits_99
abbrev t_Ru_lookAtLimits_95 : List UInt8 := 159 :: 0 :: 25 :: t_Ru_lookAtLimits_98
abbrev t_Ru_lookAtLimits_93 : List UInt8 := 16 :: 16 :: t_Ru_lookAtLimits_95
abbrev t_Ru_lookAtLimits_91 : List UInt8 := 21 :: 4 :: t_Ru_lookAtLimits_93
abbrev t_Ru_lookAtLimits_88 : List UInt8 := 182 :: 0 :: 125 :: t_Ru_lookAtLimits_91
abbrev t_Ru_lookAtLimits_87 : List UInt8 := 29 :: t_Ru_lookAtLimits_88
abbrev t_Ru_lookAtLimits_86 : List UInt8 := 42 :: t_Ru_lookAtLimits_87
abbrev t_Ru_lookAtLimits_83 : List UInt8 := 160 :: 0 :: 8 :: t_Ru_lookAtLimits_86
abbrev t_Ru_lookAtLimits_82 : List UInt8 := 46 :: t_Ru_lookAtLimits_83
abbrev t_Ru_lookAtLimits_81 : List UInt8 := 29 :: t_Ru_lookAtLimits_82
abbrev t_Ru_lookAtLimits_78 : List UInt8 := 180 :: 0 :: 26 :: t_Ru_lookAtLimits_81
abbrev t_Ru_lookAtLimits_77 : List UInt8 := 42 :: t_Ru_lookAtLimits_78
abbrev t_Ru_lookAtLimits_76 : List UInt8 := 46 :: t_Ru_lookAtLimits_77
abbrev t_Ru_lookAtLimits_75 : List UInt8 := 29 :: t_Ru_lookAtLimits_76
abbrev t_Ru_lookAtLimits_72 : List UInt8 := 180 :: 0 :: 35 :: t_Ru_lookAtLimits_75
abbrev t_Ru_lookAtLimits_71 : List UInt8 := 42 :: t_Ru_lookAtLimits_72
abbrev t_Ru_lookAtLimits_68 : List UInt8 := 160 :: 0 :: 23 :: t_Ru_lookAtLimits_71
abbrev t_Ru_lookAtLimits_66 : List UInt8 := 16 :: 20 :: t_Ru_lookAtLimits_68
abbrev t_Ru_lookAtLimits_64 : List UInt8 := 21 :: 4 :: t_Ru_lookAtLimits_66
abbrev t_Ru_lookAtLimits_62 : List UInt8 := 54 :: 4 :: t_Ru_lookAtLimits_64
abbrev t_Ru_lookAtLimits_61 : List UInt8 := 46 :: t_Ru_lookAtLimits_62
abbrev t_Ru_lookAtLimits_60 : List UInt8 := 46 :: t_Ru_lookAtLimits_61
abbrev t_Ru_lookAtLimits_59 : List UInt8 := 29 :: t_Ru_lookAtLimits_60
abbrev t_Ru_lookAtLimits_56 : List UInt8 := 180 :: 0 :: 22 :: t_Ru_lookAtLimits_59
abbrev t_Ru_lookAtLimits_55 : List UInt8 := 42 :: t_Ru_lookAtLimits_56
abbrev t_Ru_lookAtLimits_52 : List UInt8 := 180 :: 0 :: 122 :: t_Ru_lookAtLimits_55
abbrev t_Ru_lookAtLimits_49 : List UInt8 := 180 :: 0 :: 12 :: t_Ru_lookAtLimits_52
abbrev t_Ru_lookAtLimits_48 : List UInt8 := 42 :: t_Ru_lookAtLimits_49
abbrev t_Ru_lookAtLimits_47 : List UInt8 := 177 :: t_Ru_lookAtLimits_48
abbrev t_Ru_lookAtLimits_44 : List UInt8 := 161 :: 0 :: 4 :: t_Ru_lookAtLimits_47
abbrev t_Ru_lookAtLimits_42 : List UInt8 := 16 :: 100 :: t_Ru_lookAtLimits_44
abbrev t_Ru_lookAtLimits_41 : List UInt8 := 28 :: t_Ru_lookAtLimits_42
abbrev t_Ru_lookAtLimits_38 : List UInt8 := 153 :: 0 :: 9 :: t_Ru_lookAtLimits_41
abbrev t_Ru_lookAtLimits_37 : List UInt8 := 46 :: t_Ru_lookAtLimits_38
abbrev t_Ru_lookAtLimits_36 : List UInt8 := 29 :: t_Ru_lookAtLimits_37
abbrev t_Ru_lookAtLimits_33 : List UInt8 := 180 :: 0 :: 32 :: t_Ru_lookAtLimits_36
abbrev t_Ru_lookAtLimits_32 : List UInt8 := 42 :: t_Ru_lookAtLimits_33
abbrev t_Ru_lookAtLimits_29 : List UInt8 := 155 :: 0 :: 18 :: t_Ru_lookAtLimits_32
abbrev t_Ru_lookAtLimits_28 : List UInt8 := 29 :: t_Ru_lookAtLimits_29
abbrev t_Ru_lookAtLimits_25 : List UInt8 := 154 :: 0 :: 22 :: t_Ru_lookAtLimits_28
abbrev t_Ru_lookAtLimits_22 : List UInt8 := 182 :: 0 :: 103 :: t_Ru_lookAtLimits_25
abbrev t_Ru_lookAtLimits_21 : List UInt8 := 42 :: t_Ru_lookAtLimits_22
abbrev t_Ru_lookAtLimits_20 : List UInt8 := 62 :: t_Ru_lookAtLimits_21
abbrev t_Ru_lookAtLimits_19 : List UInt8 := 2 :: t_Ru_lookAtLimits_20
abbrev t_Ru_lookAtLimits_16 : List UInt8 := 167 :: 0 :: 4 :: t_Ru_lookAtLimits_19
abbrev t_Ru_lookAtLimits_15 : List UInt8 := 46 :: t_Ru_lookAtLimits_16
abbrev t_Ru_lookAtLimits_14 : List UInt8 := 27 :: t_Ru_lookAtLimits_15
abbrev t_Ru_lookAtLimits_11 : List UInt8 := 180 :: 0 :: 35 :: t_Ru_lookAtLimits_14
abbrev t_Ru_lookAtLimits_10 : List UInt8 := 42 :: t_Ru_lookAtLimits_11
abbrev t_Ru_lookAtLimits_7 : List UInt8 := 160 :: 0 :: 12 :: t_Ru_lookAtLimits_10
abbrev t_Ru_lookAtLimits_6 : List UInt8 := 4 :: t_Ru_lookAtLimits_7
abbrev t_Ru_lookAtLimits_5 : List UInt8 := 46 :: t_Ru_lookAtLimits_6
abbrev t_Ru_lookAtLimits_4 : List UInt8 := 27 :: t_Ru_lookAtLimits_5
abbrev t_Ru_lookAtLimits_1 : List UInt8 := 180 :: 0 :: 32 :: t_Ru_lookAtLimits_4
abbrev t_Ru_lookAtLimits_0 : List UInt8 := 42 :: t_Ru_lookAtLimits_1
theorem a_Ru_lookAtLimits_0 : dk_at b_Ru_lookAtLimits 0 t_Ru_lookAtLimits_0 := dk_start (by decide +kernel)
theorem a_Ru_lookAtLimits_1 : dk_at b_Ru_lookAtLimits 1 t_Ru_lookAtLimits_1 := dk_go 1 a_Ru_lookAtLimits_0 rfl
theorem a_Ru_lookAtLimits_4 : dk_at b_Ru_lookAtLimits 4 t_Ru_lookAtLimits_4 := dk_go 3 a_Ru_lookAtLimits_1 rfl
theorem a_Ru_lookAtLimits_5 : dk_at b_Ru_lookAtLimits 5 t_Ru_lookAtLimits_5 := dk_go 1 a_Ru_lookAtLimits_4 rfl
theorem a_Ru_lookAtLimits_6 : dk_at b_Ru_lookAtLimits 6 t_Ru_lookAtLimits_6 := dk_go 1 a_Ru_lookAtLimits_5 rfl
theorem a_Ru_lookAtLimits_7 : dk_at b_Ru_lookAtLimits 7 t_Ru_lookAtLimits_7 := dk_go 1 a_Ru_lookAtLimits_6 rfl
theorem a_Ru_lookAtLimits_10 : dk_at b_Ru_lookAtLimits 10 t_Ru_lookAtLimits_10 := dk_go 3 a_Ru_lookAtLimits_7 rfl
theorem a_Ru_lookAtLimits_11 : dk_at b_Ru_lookAtLimits 11 t_Ru_lookAtLimits_11 := dk_go 1 a_Ru_lookAtLimits_10 rfl
theorem a_Ru_lookAtLimits_14 : dk_at b_Ru_lookAtLimits 14 t_Ru_lookAtLimits_14 := dk_go 3 a_Ru_lookAtLimits_11 rfl
theorem a_Ru_lookAtLimits_15 : dk_at b_Ru_lookAtLimits 15 t_Ru_lookAtLimits_15 := dk_go 1 a_Ru_lookAtLimits_14 rfl
theorem a_Ru_lookAtLimits_16 : dk_at b_Ru_lookAtLimits 16 t_Ru_lookAtLimits_16 := dk_go 1 a_Ru_lookAtLimits_15 rfl
theorem a_Ru_lookAtLimits_19 : dk_at b_Ru_lookAtLimits 19 t_Ru_lookAtLimits_19 := dk_go 3 a_Ru_lookAtLimits_16 rfl
theorem a_Ru_lookAtLimits_20 : dk_at b_Ru_lookAtLimits 20 t_Ru_lookAtLimits_20 := dk_go 1 a_Ru_lookAtLimits_19 rfl
theorem a_Ru_lookAtLimits_21 : dk_at b_Ru_lookAtLimits 21 t_Ru_lookAtLimits_21 := dk_go 1 a_Ru_lookAtLimits_20 rfl
theorem a_Ru_lookAtLimits_22 : dk_at b_Ru_lookAtLimits 22 t_Ru_lookAtLimits_22 := dk_go 1 a_Ru_lookAtLimits_21 rfl
theorem a_Ru_lookAtLimits_25 : dk_at b_Ru_lookAtLimits 25 t_Ru_lookAtLimits_25 := dk_go 3 a_Ru_lookAtLimits_22 rfl
theorem a_Ru_lookAtLimits_28 : dk_at b_Ru_lookAtLimits 28 t_Ru_lookAtLimits_28 := dk_go 3 a_Ru_lookAtLimits_25 rfl
theorem a_Ru_lookAtLimits_29 : dk_at b_Ru_lookAtLimits 29 t_Ru_lookAtLimits_29 := dk_go 1 a_Ru_lookAtLimits_28 rfl
theorem a_Ru_lookAtLimits_32 : dk_at b_Ru_lookAtLimits 32 t_Ru_lookAtLimits_32 := dk_go 3 a_Ru_lookAtLimits_29 rfl
theorem a_Ru_lookAtLimits_33 : dk_at b_Ru_lookAtLimits 33 t_Ru_lookAtLimits_33 := dk_go 1 a_Ru_lookAtLimits_32 rfl
theorem a_Ru_lookAtLimits_36 : dk_at b_Ru_lookAtLimits 36 t_Ru_lookAtLimits_36 := dk_go 3 a_Ru_lookAtLimits_33 rfl
theorem a_Ru_lookAtLimits_37 : dk_at b_Ru_lookAtLimits 37 t_Ru_lookAtLimits_37 := dk_go 1 a_Ru_lookAtLimits_36 rfl
theorem a_Ru_lookAtLimits_38 : dk_at b_Ru_lookAtLimits 38 t_Ru_lookAtLimits_38 := dk_go 1 a_Ru_lookAtLimits_37 rfl
theorem a_Ru_lookAtLimits_41 : dk_at b_Ru_lookAtLimits 41 t_Ru_lookAtLimits_41 := dk_go 3 a_Ru_lookAtLimits_38 rfl
theorem a_Ru_lookAtLimits_42 : dk_at b_Ru_lookAtLimits 42 t_Ru_lookAtLimits_42 := dk_go 1 a_Ru_lookAtLimits_41 rfl
theorem a_Ru_lookAtLimits_44 : dk_at b_Ru_lookAtLimits 44 t_Ru_lookAtLimits_44 := dk_go 2 a_Ru_lookAtLimits_42 rfl
theorem a_Ru_lookAtLimits_47 : dk_at b_Ru_lookAtLimits 47 t_Ru_lookAtLimits_47 := dk_go 3 a_Ru_lookAtLimits_44 rfl
theorem a_Ru_lookAtLimits_48 : dk_at b_Ru_lookAtLimits 48 t_Ru_lookAtLimits_48 := dk_go 1 a_Ru_lookAtLimits_47 rfl
theorem a_Ru_lookAtLimits_49 : dk_at b_Ru_lookAtLimits 49 t_Ru_lookAtLimits_49 := dk_go 1 a_Ru_lookAtLimits_48 rfl
theorem a_Ru_lookAtLimits_52 : dk_at b_Ru_lookAtLimits 52 t_Ru_lookAtLimits_52 := dk_go 3 a_Ru_lookAtLimits_49 rfl
theorem a_Ru_lookAtLimits_55 : dk_at b_Ru_lookAtLimits 55 t_Ru_lookAtLimits_55 := dk_go 3 a_Ru_lookAtLimits_52 rfl
theorem a_Ru_lookAtLimits_56 : dk_at b_Ru_lookAtLimits 56 t_Ru_lookAtLimits_56 := dk_go 1 a_Ru_lookAtLimits_55 rfl
theorem a_Ru_lookAtLimits_59 : dk_at b_Ru_lookAtLimits 59 t_Ru_lookAtLimits_59 := dk_go 3 a_Ru_lookAtLimits_56 rfl
theorem a_Ru_lookAtLimits_60 : dk_at b_Ru_lookAtLimits 60 t_Ru_lookAtLimits_60 := dk_go 1 a_Ru_lookAtLimits_59 rfl
theorem a_Ru_lookAtLimits_61 : dk_at b_Ru_lookAtLimits 61 t_Ru_lookAtLimits_61 := dk_go 1 a_Ru_lookAtLimits_60 rfl
theorem a_Ru_lookAtLimits_62 : dk_at b_Ru_lookAtLimits 62 t_Ru_lookAtLimits_62 := dk_go 1 a_Ru_lookAtLimits_61 rfl
theorem a_Ru_lookAtLimits_64 : dk_at b_Ru_lookAtLimits 64 t_Ru_lookAtLimits_64 := dk_go 2 a_Ru_lookAtLimits_62 rfl
theorem a_Ru_lookAtLimits_66 : dk_at b_Ru_lookAtLimits 66 t_Ru_lookAtLimits_66 := dk_go 2 a_Ru_lookAtLimits_64 rfl
theorem a_Ru_lookAtLimits_68 : dk_at b_Ru_lookAtLimits 68 t_Ru_lookAtLimits_68 := dk_go 2 a_Ru_lookAtLimits_66 rfl
theorem a_Ru_lookAtLimits_71 : dk_at b_Ru_lookAtLimits 71 t_Ru_lookAtLimits_71 := dk_go 3 a_Ru_lookAtLimits_68 rfl
theorem a_Ru_lookAtLimits_72 : dk_at b_Ru_lookAtLimits 72 t_Ru_lookAtLimits_72 := dk_go 1 a_Ru_lookAtLimits_71 rfl
theorem a_Ru_lookAtLimits_75 : dk_at b_Ru_lookAtLimits 75 t_Ru_lookAtLimits_75 := dk_go 3 a_Ru_lookAtLimits_72 rfl
theorem a_Ru_lookAtLimits_76 : dk_at b_Ru_lookAtLimits 76 t_Ru_lookAtLimits_76 := dk_go 1 a_Ru_lookAtLimits_75 rfl
theorem a_Ru_lookAtLimits_77 : dk_at b_Ru_lookAtLimits 77 t_Ru_lookAtLimits_77 := dk_go 1 a_Ru_lookAtLimits_76 rfl
theorem a_Ru_lookAtLimits_78 : dk_at b_Ru_lookAtLimits 78 t_Ru_lookAtLimits_78 := dk_go 1 a_Ru_lookAtLimits_77 rfl
theorem a_Ru_lookAtLimits_81 : dk_at b_Ru_lookAtLimits 81 t_Ru_lookAtLimits_81 := dk_go 3 a_Ru_lookAtLimits_78 rfl
theorem a_Ru_lookAtLimits_82 : dk_at b_Ru_lookAtLimits 82 t_Ru_lookAtLimits_82 := dk_go 1 a_Ru_lookAtLimits_81 rfl
theorem a_Ru_lookAtLimits_83 : dk_at b_Ru_lookAtLimits 83 t_Ru_lookAtLimits_83 := dk_go 1 a_Ru_lookAtLimits_82 rfl
theorem a_Ru_lookAtLimits_86 : dk_at b_Ru_lookAtLimits 86 t_Ru_lookAtLimits_86 := dk_go 3 a_Ru_lookAtLimits_83 rfl
theorem a_Ru_lookAtLimits_87 : dk_at b_Ru_lookAtLimits 87 t_Ru_lookAtLimits_87 := dk_go 1 a_Ru_lookAtLimits_86 rfl
theorem a_Ru_lookAtLimits_88 : dk_at b_Ru_lookAtLimits 88 t_Ru_lookAtLimits_88 := dk_go 1 a_Ru_lookAtLimits_87 rfl
theorem a_Ru_lookAtLimits_91 : dk_at b_Ru_lookAtLimits 91 t_Ru_lookAtLimits_91 := dk_go 3 a_Ru_lookAtLimits_88 rfl
theorem a_Ru_lookAtLimits_93 : dk_at b_Ru_lookAtLimits 93 t_Ru_lookAtLimits_93 := dk_go 2 a_Ru_lookAtLimits_91 rfl
theorem a_Ru_lookAtLimits_95 : dk_at b_Ru_lookAtLimits 95 t_Ru_lookAtLimits_95 := dk_go 2 a_Ru_lookAtLimits_93 rfl
theorem a_Ru_lookAtLimits_98 : dk_at b_Ru_lookAtLimits 98 t_Ru_lookAtLimits_98 := dk_go 3 a_Ru_lookAtLimits_95 rfl
theorem a_Ru_lookAtLimits_99 : dk_at b_Ru_lookAtLimits 99 t_Ru_lookAtLimits_99 := dk_go 1 a_Ru_lookAtLimits_98 rfl
theorem a_Ru_lookAtLimits_102 : dk_at b_Ru_lookAtLimits 102 t_Ru_lookAtLimits_102 := dk_go 3 a_Ru_lookAtLimits_99 rfl
theorem a_Ru_lookAtLimits_103 : dk_at b_Ru_lookAtLimits 103 t_Ru_lookAtLimits_103 := dk_go 1 a_Ru_lookAtLimits_102 rfl
theorem a_Ru_lookAtLimits_104 : dk_at b_Ru_lookAtLimits 104 t_Ru_lookAtLimits_104 := dk_go 1 a_Ru_lookAtLimits_103 rfl
theorem a_Ru_lookAtLimits_107 : dk_at b_Ru_lookAtLimits 107 t_Ru_lookAtLimits_107 := dk_go 3 a_Ru_lookAtLimits_104 rfl
theorem a_Ru_lookAtLimits_108 : dk_at b_Ru_lookAtLimits 108 t_Ru_lookAtLimits_108 := dk_go 1 a_Ru_lookAtLimits_107 rfl
theorem a_Ru_lookAtLimits_109 : dk_at b_Ru_lookAtLimits 109 t_Ru_lookAtLimits_109 := dk_go 1 a_Ru_lookAtLimits_108 rfl
theorem a_Ru_lookAtLimits_112 : dk_at b_Ru_lookAtLimits 112 t_Ru_lookAtLimits_112 := dk_go 3 a_Ru_lookAtLimits_109 rfl
theorem a_Ru_lookAtLimits_113 : dk_at b_Ru_lookAtLimits 113 t_Ru_lookAtLimits_113 := dk_go 1 a_Ru_lookAtLimits_112 rfl
theorem a_Ru_lookAtLimits_114 : dk_at b_Ru_lookAtLimits 114 t_Ru_lookAtLimits_114 := dk_go 1 a_Ru_lookAtLimits_113 rfl
theorem a_Ru_lookAtLimits_115 : dk_at b_Ru_lookAtLimits 115 t_Ru_lookAtLimits_115 := dk_go 1 a_Ru_lookAtLimits_114 rfl
theorem a_Ru_lookAtLimits_116 : dk_at b_Ru_lookAtLimits 116 t_Ru_lookAtLimits_116 := dk_go 1 a_Ru_lookAtLimits_115 rfl
theorem a_Ru_lookAtLimits_117 : dk_at b_Ru_lookAtLimits 117 t_Ru_lookAtLimits_117 := dk_go 1 a_Ru_lookAtLimits_116 rfl
theorem a_Ru_lookAtLimits_120 : dk_at b_Ru_lookAtLimits 120 t_Ru_lookAtLimits_120 := dk_go 3 a_Ru_lookAtLimits_117 rfl
theorem a_Ru_lookAtLimits_122 : dk_at b_Ru_lookAtLimits 122 t_Ru_lookAtLimits_122 := dk_go 2 a_Ru_lookAtLimits_120 rfl
theorem a_Ru_lookAtLimits_124 : dk_at b_Ru_lookAtLimits 124 t_Ru_lookAtLimits_124 := dk_go 2 a_Ru_lookAtLimits_122 rfl
theorem a_Ru_lookAtLimits_127 : dk_at b_Ru_lookAtLimits 127 t_Ru_lookAtLimits_127 := dk_go 3 a_Ru_lookAtLimits_124 rfl
theorem a_Ru_lookAtLimits_128 : dk_at b_Ru_lookAtLimits 128 t_Ru_lookAtLimits_128 := dk_go 1 a_Ru_lookAtLimits_127 rfl
theorem a_Ru_lookAtLimits_131 : dk_at b_Ru_lookAtLimits 131 t_Ru_lookAtLimits_131 := dk_go 3 a_Ru_lookAtLimits_128 rfl
theorem a_Ru_lookAtLimits_132 : dk_at b_Ru_lookAtLimits 132 t_Ru_lookAtLimits_132 := dk_go 1 a_Ru_lookAtLimits_131 rfl
theorem a_Ru_lookAtLimits_133 : dk_at b_Ru_lookAtLimits 133 t_Ru_lookAtLimits_133 := dk_go 1 a_Ru_lookAtLimits_132 rfl
theorem a_Ru_lookAtLimits_136 : dk_at b_Ru_lookAtLimits 136 t_Ru_lookAtLimits_136 := dk_go 3 a_Ru_lookAtLimits_133 rfl
theorem a_Ru_lookAtLimits_137 : dk_at b_Ru_lookAtLimits 137 t_Ru_lookAtLimits_137 := dk_go 1 a_Ru_lookAtLimits_136 rfl
theorem a_Ru_lookAtLimits_139 : dk_at b_Ru_lookAtLimits 139 t_Ru_lookAtLimits_139 := dk_go 2 a_Ru_lookAtLimits_137 rfl
theorem a_Ru_lookAtLimits_140 : dk_at b_Ru_lookAtLimits 140 t_Ru_lookAtLimits_140 := dk_go 1 a_Ru_lookAtLimits_139 rfl
theorem a_Ru_lookAtLimits_142 : dk_at b_Ru_lookAtLimits 142 t_Ru_lookAtLimits_142 := dk_go 2 a_Ru_lookAtLimits_140 rfl
theorem a_Ru_lookAtLimits_144 : dk_at b_Ru_lookAtLimits 144 t_Ru_lookAtLimits_144 := dk_go 2 a_Ru_lookAtLimits_142 rfl
theorem a_Ru_lookAtLimits_147 : dk_at b_Ru_lookAtLimits 147 t_Ru_lookAtLimits_147 := dk_go 3 a_Ru_lookAtLimits_144 rfl
theorem a_Ru_lookAtLimits_150 : dk_at b_Ru_lookAtLimits 150 t_Ru_lookAtLimits_150 := dk_go 3 a_Ru_lookAtLimits_147 rfl
theorem a_Ru_lookAtLimits_152 : dk_at b_Ru_lookAtLimits 152 t_Ru_lookAtLimits_152 := dk_go 2 a_Ru_lookAtLimits_150 rfl
theorem a_Ru_lookAtLimits_155 : dk_at b_Ru_lookAtLimits 155 t_Ru_lookAtLimits_155 := dk_go 3 a_Ru_lookAtLimits_152 rfl
theorem a_Ru_lookAtLimits_156 : dk_at b_Ru_lookAtLimits 156 t_Ru_lookAtLimits_156 := dk_go 1 a_Ru_lookAtLimits_155 rfl
theorem a_Ru_lookAtLimits_158 : dk_at b_Ru_lookAtLimits 158 t_Ru_lookAtLimits_158 := dk_go 2 a_Ru_lookAtLimits_156 rfl
theorem a_Ru_lookAtLimits_159 : dk_at b_Ru_lookAtLimits 159 t_Ru_lookAtLimits_159 := dk_go 1 a_Ru_lookAtLimits_158 rfl
theorem a_Ru_lookAtLimits_160 : dk_at b_Ru_lookAtLimits 160 t_Ru_lookAtLimits_160 := dk_go 1 a_Ru_lookAtLimits_159 rfl
theorem a_Ru_lookAtLimits_161 : dk_at b_Ru_lookAtLimits 161 t_Ru_lookAtLimits_161 := dk_go 1 a_Ru_lookAtLimits_160 rfl
theorem a_Ru_lookAtLimits_164 : dk_at b_Ru_lookAtLimits 164 t_Ru_lookAtLimits_164 := dk_go 3 a_Ru_lookAtLimits_161 rfl
theorem a_Ru_lookAtLimits_165 : dk_at b_Ru_lookAtLimits 165 t_Ru_lookAtLimits_165 := dk_go 1 a_Ru_lookAtLimits_164 rfl
theorem a_Ru_lookAtLimits_168 : dk_at b_Ru_lookAtLimits 168 t_Ru_lookAtLimits_168 := dk_go 3 a_Ru_lookAtLimits_165 rfl
theorem a_Ru_lookAtLimits_170 : dk_at b_Ru_lookAtLimits 170 t_Ru_lookAtLimits_170 := dk_go 2 a_Ru_lookAtLimits_168 rfl
theorem a_Ru_lookAtLimits_171 : dk_at b_Ru_lookAtLimits 171 t_Ru_lookAtLimits_171 := dk_go 1 a_Ru_lookAtLimits_170 rfl
theorem a_Ru_lookAtLimits_173 : dk_at b_Ru_lookAtLimits 173 t_Ru_lookAtLimits_173 := dk_go 2 a_Ru_lookAtLimits_171 rfl
theorem a_Ru_lookAtLimits_176 : dk_at b_Ru_lookAtLimits 176 t_Ru_lookAtLimits_176 := dk_go 3 a_Ru_lookAtLimits_173 rfl
theorem a_Ru_lookAtLimits_179 : dk_at b_Ru_lookAtLimits 179 t_Ru_lookAtLimits_179 := dk_go 3 a_Ru_lookAtLimits_176 rfl
theorem d_Ru_lookAtLimits_0 : decode b_Ru_lookAtLimits 0 = .ok (.aload_n 0, 1) := dk_0 a_Ru_lookAtLimits_0 (dko_42 _)
theorem d_Ru_lookAtLimits_1 : decode b_Ru_lookAtLimits 1 = .ok (.getfield 32, 3) := dk_U2 a_Ru_lookAtLimits_1 (dko_180 _) rfl
theorem d_Ru_lookAtLimits_4 : decode b_Ru_lookAtLimits 4 = .ok (.iload_n 1, 1) := dk_0 a_Ru_lookAtLimits_4 (dko_27 _)
theorem d_Ru_lookAtLimits_5 : decode b_Ru_lookAtLimits 5 = .ok (.iaload, 1) := dk_0 a_Ru_lookAtLimits_5 (dko_46 _)
theorem d_Ru_lookAtLimits_6 : decode b_Ru_lookAtLimits 6 = .ok (.iconst 1, 1) := dk_0 a_Ru_lookAtLimits_6 (dko_4 _)
theorem d_Ru_lookAtLimits_7 : decode b_Ru_lookAtLimits 7 = .ok (.if_icmp .ne 12, 3) := dk_S2 a_Ru_lookAtLimits_7 (dko_160 _) (by decide +kernel)
theorem d_Ru_lookAtLimits_10 : decode b_Ru_lookAtLimits 10 = .ok (.aload_n 0, 1) := dk_0 a_Ru_lookAtLimits_10 (dko_42 _)
theorem d_Ru_lookAtLimits_11 : decode b_Ru_lookAtLimits 11 = .ok (.getfield 35, 3) := dk_U2 a_Ru_lookAtLimits_11 (dko_180 _) rfl
theorem d_Ru_lookAtLimits_14 : decode b_Ru_lookAtLimits 14 = .ok (.iload_n 1, 1) := dk_0 a_Ru_lookAtLimits_14 (dko_27 _)
theorem d_Ru_lookAtLimits_15 : decode b_Ru_lookAtLimits 15 = .ok (.iaload, 1) := dk_0 a_Ru_lookAtLimits_15 (dko_46 _)
theorem d_Ru_lookAtLimits_16 : decode b_Ru_lookAtLimits 16 = .ok (.goto 4, 3) := dk_S2 a_Ru_lookAtLimits_16 (dko_167 _) (by decide +kernel)
theorem d_Ru_lookAtLimits_19 : decode b_Ru_lookAtLimits 19 = .ok (.iconst (-1), 1) := dk_0 a_Ru_lookAtLimits_19 (dko_2 _)
theorem d_Ru_lookAtLimits_20 : decode b_Ru_lookAtLimits 20 = .ok (.istore_n 3, 1) := dk_0 a_Ru_lookAtLimits_20 (dko_62 _)
theorem d_Ru_lookAtLimits_21 : decode b_Ru_lookAtLimits 21 = .ok (.aload_n 0, 1) := dk_0 a_Ru_lookAtLimits_21 (dko_42 _)
theorem d_Ru_lookAtLimits_22 : decode b_Ru_lookAtLimits 22 = .ok (.invokevirtual 103, 3) := dk_U2 a_Ru_lookAtLimits_22 (dko_182 _) rfl
theorem d_Ru_lookAtLimits_25 : decode b_Ru_lookAtLimits 25 = .ok (.ifCond .ne 22, 3) := dk_S2 a_Ru_lookAtLimits_25 (dko_154 _) (by decide +kernel)
theorem d_Ru_lookAtLimits_28 : decode b_Ru_lookAtLimits 28 = .ok (.iload_n 3, 1) := dk_0 a_Ru_lookAtLimits_28 (dko_29 _)
theorem d_Ru_lookAtLimits_29 : decode b_Ru_lookAtLimits 29 = .ok (.ifCond .lt 18, 3) := dk_S2 a_Ru_lookAtLimits_29 (dko_155 _) (by decide +kernel)
theorem d_Ru_lookAtLimits_32 : decode b_Ru_lookAtLimits 32 = .ok (.aload_n 0, 1) := dk_0 a_Ru_lookAtLimits_32 (dko_42 _)
theorem d_Ru_lookAtLimits_33 : decode b_Ru_lookAtLimits 33 = .ok (.getfield 32, 3) := dk_U2 a_Ru_lookAtLimits_33 (dko_180 _) rfl
theorem d_Ru_lookAtLimits_36 : decode b_Ru_lookAtLimits 36 = .ok (.iload_n 3, 1) := dk_0 a_Ru_lookAtLimits_36 (dko_29 _)
theorem d_Ru_lookAtLimits_37 : decode b_Ru_lookAtLimits 37 = .ok (.iaload, 1) := dk_0 a_Ru_lookAtLimits_37 (dko_46 _)
theorem d_Ru_lookAtLimits_38 : decode b_Ru_lookAtLimits 38 = .ok (.ifCond .eq 9, 3) := dk_S2 a_Ru_lookAtLimits_38 (dko_153 _) (by decide +kernel)
theorem d_Ru_lookAtLimits_41 : decode b_Ru_lookAtLimits 41 = .ok (.iload_n 2, 1) := dk_0 a_Ru_lookAtLimits_41 (dko_28 _)
theorem d_Ru_lookAtLimits_42 : decode b_Ru_lookAtLimits 42 = .ok (.bipush 100, 2) := dk_S1 a_Ru_lookAtLimits_42 (dko_16 _) (by decide +kernel)
theorem d_Ru_lookAtLimits_44 : decode b_Ru_lookAtLimits 44 = .ok (.if_icmp .lt 4, 3) := dk_S2 a_Ru_lookAtLimits_44 (dko_161 _) (by decide +kernel)
theorem d_Ru_lookAtLimits_47 : decode b_Ru_lookAtLimits 47 = .ok (.return_, 1) := dk_0 a_Ru_lookAtLimits_47 (dko_177 _)
theorem d_Ru_lookAtLimits_48 : decode b_Ru_lookAtLimits 48 = .ok (.aload_n 0, 1) := dk_0 a_Ru_lookAtLimits_48 (dko_42 _)
theorem d_Ru_lookAtLimits_49 : decode b_Ru_lookAtLimits 49 = .ok (.getfield 12, 3) := dk_U2 a_Ru_lookAtLimits_49 (dko_180 _) rfl
theorem d_Ru_lookAtLimits_52 : decode b_Ru_lookAtLimits 52 = .ok (.getfield 122, 3) := dk_U2 a_Ru_lookAtLimits_52 (dko_180 _) rfl
theorem d_Ru_lookAtLimits_55 : decode b_Ru_lookAtLimits 55 = .ok (.aload_n 0, 1) := dk_0 a_Ru_lookAtLimits_55 (dko_42 _)
theorem d_Ru_lookAtLimits_56 : decode b_Ru_lookAtLimits 56 = .ok (.getfield 22, 3) := dk_U2 a_Ru_lookAtLimits_56 (dko_180 _) rfl
theorem d_Ru_lookAtLimits_59 : decode b_Ru_lookAtLimits 59 = .ok (.iload_n 3, 1) := dk_0 a_Ru_lookAtLimits_59 (dko_29 _)
theorem d_Ru_lookAtLimits_60 : decode b_Ru_lookAtLimits 60 = .ok (.iaload, 1) := dk_0 a_Ru_lookAtLimits_60 (dko_46 _)
theorem d_Ru_lookAtLimits_61 : decode b_Ru_lookAtLimits 61 = .ok (.iaload, 1) := dk_0 a_Ru_lookAtLimits_61 (dko_46 _)
theorem d_Ru_lookAtLimits_62 : decode b_Ru_lookAtLimits 62 = .ok (.istore 4, 2) := dk_U1 a_Ru_lookAtLimits_62 (dko_54 _) rfl
theorem d_Ru_lookAtLimits_64 : decode b_Ru_lookAtLimits 64 = .ok (.iload 4, 2) := dk_U1 a_Ru_lookAtLimits_64 (dko_21 _) rfl
theorem d_Ru_lookAtLimits_66 : decode b_Ru_lookAtLimits 66 = .ok (.bipush 20, 2) := dk_S1 a_Ru_lookAtLimits_66 (dko_16 _) (by decide +kernel)
theorem d_Ru_lookAtLimits_68 : decode b_Ru_lookAtLimits 68 = .ok (.if_icmp .ne 23, 3) := dk_S2 a_Ru_lookAtLimits_68 (dko_160 _) (by decide +kernel)
theorem d_Ru_lookAtLimits_71 : decode b_Ru_lookAtLimits 71 = .ok (.aload_n 0, 1) := dk_0 a_Ru_lookAtLimits_71 (dko_42 _)
theorem d_Ru_lookAtLimits_72 : decode b_Ru_lookAtLimits 72 = .ok (.getfield 35, 3) := dk_U2 a_Ru_lookAtLimits_72 (dko_180 _) rfl
theorem d_Ru_lookAtLimits_75 : decode b_Ru_lookAtLimits 75 = .ok (.iload_n 3, 1) := dk_0 a_Ru_lookAtLimits_75 (dko_29 _)
theorem d_Ru_lookAtLimits_76 : decode b_Ru_lookAtLimits 76 = .ok (.iaload, 1) := dk_0 a_Ru_lookAtLimits_76 (dko_46 _)
theorem d_Ru_lookAtLimits_77 : decode b_Ru_lookAtLimits 77 = .ok (.aload_n 0, 1) := dk_0 a_Ru_lookAtLimits_77 (dko_42 _)
theorem d_Ru_lookAtLimits_78 : decode b_Ru_lookAtLimits 78 = .ok (.getfield 26, 3) := dk_U2 a_Ru_lookAtLimits_78 (dko_180 _) rfl
theorem d_Ru_lookAtLimits_81 : decode b_Ru_lookAtLimits 81 = .ok (.iload_n 3, 1) := dk_0 a_Ru_lookAtLimits_81 (dko_29 _)
theorem d_Ru_lookAtLimits_82 : decode b_Ru_lookAtLimits 82 = .ok (.iaload, 1) := dk_0 a_Ru_lookAtLimits_82 (dko_46 _)
theorem d_Ru_lookAtLimits_83 : decode b_Ru_lookAtLimits 83 = .ok (.if_icmp .ne 8, 3) := dk_S2 a_Ru_lookAtLimits_83 (dko_160 _) (by decide +kernel)
theorem d_Ru_lookAtLimits_86 : decode b_Ru_lookAtLimits 86 = .ok (.aload_n 0, 1) := dk_0 a_Ru_lookAtLimits_86 (dko_42 _)
theorem d_Ru_lookAtLimits_87 : decode b_Ru_lookAtLimits 87 = .ok (.iload_n 3, 1) := dk_0 a_Ru_lookAtLimits_87 (dko_29 _)
theorem d_Ru_lookAtLimits_88 : decode b_Ru_lookAtLimits 88 = .ok (.invokevirtual 125, 3) := dk_U2 a_Ru_lookAtLimits_88 (dko_182 _) rfl
theorem d_Ru_lookAtLimits_91 : decode b_Ru_lookAtLimits 91 = .ok (.iload 4, 2) := dk_U1 a_Ru_lookAtLimits_91 (dko_21 _) rfl
theorem d_Ru_lookAtLimits_93 : decode b_Ru_lookAtLimits 93 = .ok (.bipush 16, 2) := dk_S1 a_Ru_lookAtLimits_93 (dko_16 _) (by decide +kernel)
theorem d_Ru_lookAtLimits_95 : decode b_Ru_lookAtLimits 95 = .ok (.if_icmp .eq 25, 3) := dk_S2 a_Ru_lookAtLimits_95 (dko_159 _) (by decide +kernel)
theorem d_Ru_lookAtLimits_98 : decode b_Ru_lookAtLimits 98 = .ok (.aload_n 0, 1) := dk_0 a_Ru_lookAtLimits_98 (dko_42 _)
theorem d_Ru_lookAtLimits_99 : decode b_Ru_lookAtLimits 99 = .ok (.getfield 35, 3) := dk_U2 a_Ru_lookAtLimits_99 (dko_180 _) rfl
theorem d_Ru_lookAtLimits_102 : decode b_Ru_lookAtLimits 102 = .ok (.iload_n 3, 1) := dk_0 a_Ru_lookAtLimits_102 (dko_29 _)
theorem d_Ru_lookAtLimits_103 : decode b_Ru_lookAtLimits 103 = .ok (.iaload, 1) := dk_0 a_Ru_lookAtLimits_103 (dko_46 _)
theorem d_Ru_lookAtLimits_104 : decode b_Ru_lookAtLimits 104 = .ok (.ifCond .lt 16, 3) := dk_S2 a_Ru_lookAtLimits_104 (dko_155 _) (by decide +kernel)
theorem d_Ru_lookAtLimits_107 : decode b_Ru_lookAtLimits 107 = .ok (.aload_n 0, 1) := dk_0 a_Ru_lookAtLimits_107 (dko_42 _)
theorem d_Ru_lookAtLimits_108 : decode b_Ru_lookAtLimits 108 = .ok (.aload_n 0, 1) := dk_0 a_Ru_lookAtLimits_108 (dko_42 _)
theorem d_Ru_lookAtLimits_109 : decode b_Ru_lookAtLimits 109 = .ok (.getfield 35, 3) := dk_U2 a_Ru_lookAtLimits_109 (dko_180 _) rfl
theorem d_Ru_lookAtLimits_112 : decode b_Ru_lookAtLimits 112 = .ok (.iload_n 3, 1) := dk_0 a_Ru_lookAtLimits_112 (dko_29 _)
theorem d_Ru_lookAtLimits_113 : decode b_Ru_lookAtLimits 113 = .ok (.iaload, 1) := dk_0 a_Ru_lookAtLimits_113 (dko_46 _)
theorem d_Ru_lookAtLimits_114 : decode b_Ru_lookAtLimits 114 = .ok (.iload_n 2, 1) := dk_0 a_Ru_lookAtLimits_114 (dko_28 _)
theorem d_Ru_lookAtLimits_115 : decode b_Ru_lookAtLimits 115 = .ok (.iconst 1, 1) := dk_0 a_Ru_lookAtLimits_115 (dko_4 _)
theorem d_Ru_lookAtLimits_116 : decode b_Ru_lookAtLimits 116 = .ok (.iadd, 1) := dk_0 a_Ru_lookAtLimits_116 (dko_96 _)
theorem d_Ru_lookAtLimits_117 : decode b_Ru_lookAtLimits 117 = .ok (.invokevirtual 99, 3) := dk_U2 a_Ru_lookAtLimits_117 (dko_182 _) rfl
theorem d_Ru_lookAtLimits_120 : decode b_Ru_lookAtLimits 120 = .ok (.iload 4, 2) := dk_U1 a_Ru_lookAtLimits_120 (dko_21 _) rfl
theorem d_Ru_lookAtLimits_122 : decode b_Ru_lookAtLimits 122 = .ok (.bipush 16, 2) := dk_S1 a_Ru_lookAtLimits_122 (dko_16 _) (by decide +kernel)
theorem d_Ru_lookAtLimits_124 : decode b_Ru_lookAtLimits 124 = .ok (.if_icmp .ne 12, 3) := dk_S2 a_Ru_lookAtLimits_124 (dko_160 _) (by decide +kernel)
theorem d_Ru_lookAtLimits_127 : decode b_Ru_lookAtLimits 127 = .ok (.aload_n 0, 1) := dk_0 a_Ru_lookAtLimits_127 (dko_42 _)
theorem d_Ru_lookAtLimits_128 : decode b_Ru_lookAtLimits 128 = .ok (.getfield 26, 3) := dk_U2 a_Ru_lookAtLimits_128 (dko_180 _) rfl
theorem d_Ru_lookAtLimits_131 : decode b_Ru_lookAtLimits 131 = .ok (.iload_n 3, 1) := dk_0 a_Ru_lookAtLimits_131 (dko_29 _)
theorem d_Ru_lookAtLimits_132 : decode b_Ru_lookAtLimits 132 = .ok (.iaload, 1) := dk_0 a_Ru_lookAtLimits_132 (dko_46 _)
theorem d_Ru_lookAtLimits_133 : decode b_Ru_lookAtLimits 133 = .ok (.goto 4, 3) := dk_S2 a_Ru_lookAtLimits_133 (dko_167 _) (by decide +kernel)
theorem d_Ru_lookAtLimits_136 : decode b_Ru_lookAtLimits 136 = .ok (.iconst (-1), 1) := dk_0 a_Ru_lookAtLimits_136 (dko_2 _)
theorem d_Ru_lookAtLimits_137 : decode b_Ru_lookAtLimits 137 = .ok (.istore 5, 2) := dk_U1 a_Ru_lookAtLimits_137 (dko_54 _) rfl
theorem d_Ru_lookAtLimits_139 : decode b_Ru_lookAtLimits 139 = .ok (.iconst 0, 1) := dk_0 a_Ru_lookAtLimits_139 (dko_3 _)
theorem d_Ru_lookAtLimits_140 : decode b_Ru_lookAtLimits 140 = .ok (.istore 6, 2) := dk_U1 a_Ru_lookAtLimits_140 (dko_54 _) rfl
theorem d_Ru_lookAtLimits_142 : decode b_Ru_lookAtLimits 142 = .ok (.iload 6, 2) := dk_U1 a_Ru_lookAtLimits_142 (dko_21 _) rfl
theorem d_Ru_lookAtLimits_144 : decode b_Ru_lookAtLimits 144 = .ok (.sipush 500, 3) := dk_S2 a_Ru_lookAtLimits_144 (dko_17 _) (by decide +kernel)
theorem d_Ru_lookAtLimits_147 : decode b_Ru_lookAtLimits 147 = .ok (.if_icmp .gt 32, 3) := dk_S2 a_Ru_lookAtLimits_147 (dko_163 _) (by decide +kernel)
theorem d_Ru_lookAtLimits_150 : decode b_Ru_lookAtLimits 150 = .ok (.iload 5, 2) := dk_U1 a_Ru_lookAtLimits_150 (dko_21 _) rfl
theorem d_Ru_lookAtLimits_152 : decode b_Ru_lookAtLimits 152 = .ok (.ifCond .lt 27, 3) := dk_S2 a_Ru_lookAtLimits_152 (dko_155 _) (by decide +kernel)
theorem d_Ru_lookAtLimits_155 : decode b_Ru_lookAtLimits 155 = .ok (.aload_n 0, 1) := dk_0 a_Ru_lookAtLimits_155 (dko_42 _)
theorem d_Ru_lookAtLimits_156 : decode b_Ru_lookAtLimits 156 = .ok (.iload 5, 2) := dk_U1 a_Ru_lookAtLimits_156 (dko_21 _) rfl
theorem d_Ru_lookAtLimits_158 : decode b_Ru_lookAtLimits 158 = .ok (.iload_n 2, 1) := dk_0 a_Ru_lookAtLimits_158 (dko_28 _)
theorem d_Ru_lookAtLimits_159 : decode b_Ru_lookAtLimits 159 = .ok (.iconst 1, 1) := dk_0 a_Ru_lookAtLimits_159 (dko_4 _)
theorem d_Ru_lookAtLimits_160 : decode b_Ru_lookAtLimits 160 = .ok (.iadd, 1) := dk_0 a_Ru_lookAtLimits_160 (dko_96 _)
theorem d_Ru_lookAtLimits_161 : decode b_Ru_lookAtLimits 161 = .ok (.invokevirtual 99, 3) := dk_U2 a_Ru_lookAtLimits_161 (dko_182 _) rfl
theorem d_Ru_lookAtLimits_164 : decode b_Ru_lookAtLimits 164 = .ok (.aload_n 0, 1) := dk_0 a_Ru_lookAtLimits_164 (dko_42 _)
theorem d_Ru_lookAtLimits_165 : decode b_Ru_lookAtLimits 165 = .ok (.getfield 29, 3) := dk_U2 a_Ru_lookAtLimits_165 (dko_180 _) rfl
theorem d_Ru_lookAtLimits_168 : decode b_Ru_lookAtLimits 168 = .ok (.iload 5, 2) := dk_U1 a_Ru_lookAtLimits_168 (dko_21 _) rfl
theorem d_Ru_lookAtLimits_170 : decode b_Ru_lookAtLimits 170 = .ok (.iaload, 1) := dk_0 a_Ru_lookAtLimits_170 (dko_46 _)
theorem d_Ru_lookAtLimits_171 : decode b_Ru_lookAtLimits 171 = .ok (.istore 5, 2) := dk_U1 a_Ru_lookAtLimits_171 (dko_54 _) rfl
theorem d_Ru_lookAtLimits_173 : decode b_Ru_lookAtLimits 173 = .ok (.iinc 6 1, 3) := dk_US a_Ru_lookAtLimits_173 (dko_132 _) (by decide +kernel)
theorem d_Ru_lookAtLimits_176 : decode b_Ru_lookAtLimits 176 = .ok (.goto (-34), 3) := dk_S2 a_Ru_lookAtLimits_176 (dko_167 _) (by decide +kernel)
theorem d_Ru_lookAtLimits_179 : decode b_Ru_lookAtLimits 179 = .ok (.return_, 1) := dk_0 a_Ru_lookAtLimits_179 (dko_177 _)
set_option maxHeartbeats 4000000 in
set_option maxRecDepth 100000 in
theorem ok_Ru_lookAtLimits (pc : Nat) : OpS mt mi_Ru_lookAtLimits pc (cs_Ru_lookAtLimits pc) := (os_n (os_n (os_n (os_n (os_n (os_n (os_l (so_aload_n d_Ru_lookAtLimits_0 rfl)) (os_n (os_l (so_get (C := R_Ru) (T := F_Ru) (N := 21) (j := 9) in_Ru rfl (by decide) mw_522 d_Ru_lookAtLimits_1)) (os_l (so_iload_n d_Ru_lookAtLimits_4 rfl)))) (os_n (os_l (so_iaload d_Ru_lookAtLimits_5)) (os_n (os_l (so_iconst d_Ru_lookAtLimits_6 (by decide))) (os_l (so_icne d_Ru_lookAtLimits_7 (by decide)))))) (os_n (os_n (os_l (so_aload_n d_Ru_lookAtLimits_10 rfl)) (os_n (os_l (so_get (C := R_Ru) (T := F_Ru) (N := 21) (j := 10) in_Ru rfl (by decide) mw_523 d_Ru_lookAtLimits_11)) (os_l (so_iload_n d_Ru_lookAtLimits_14 rfl)))) (os_n (os_l (so_iaload d_Ru_lookAtLimits_15)) (os_n (os_l (so_goto d_Ru_lookAtLimits_16 (by decide))) (os_l (so_iconst d_Ru_lookAtLimits_19 (by decide))))))) (os_n (os_n (os_n (os_l (so_istore_n d_Ru_lookAtLimits_20 rfl (by decide))) (os_n (os_l (so_aload_n d_Ru_lookAtLimits_21 rfl)) (os_l (so_callV (iv := mi_Ru_isOver) rfl rfl rfl mw_1349 mw_1351 sl_65 mw_11 mw_1352 ⟨by decide +kernel, by decide +kernel, by decide +kernel⟩ (by decide) d_Ru_lookAtLimits_22)))) (os_n (os_l (so_ifne d_Ru_lookAtLimits_25 (by decide))) (os_n (os_l (so_iload_n d_Ru_lookAtLimits_28 rfl)) (os_l (so_iflt d_Ru_lookAtLimits_29 (by decide)))))) (os_n (os_n (os_l (so_aload_n d_Ru_lookAtLimits_32 rfl)) (os_n (os_l (so_get (C := R_Ru) (T := F_Ru) (N := 21) (j := 9) in_Ru rfl (by decide) mw_522 d_Ru_lookAtLimits_33)) (os_l (so_iload_n d_Ru_lookAtLimits_36 rfl)))) (os_n (os_l (so_iaload d_Ru_lookAtLimits_37)) (os_n (os_l (so_ifeq d_Ru_lookAtLimits_38 (by decide))) (os_l (so_iload_n d_Ru_lookAtLimits_41 rfl))))))) (os_n (os_n (os_n (os_n (os_l (so_bipush d_Ru_lookAtLimits_42 (by decide))) (os_n (os_l (so_iclt d_Ru_lookAtLimits_44 (by decide))) (os_l (so_return rfl d_Ru_lookAtLimits_47)))) (os_n (os_l (so_aload_n d_Ru_lookAtLimits_48 rfl)) (os_n (os_l (so_get (C := R_Ru) (T := F_Ru) (N := 21) (j := 3) in_Ru rfl (by decide) mw_514 d_Ru_lookAtLimits_49)) (os_l (so_get (C := R_Pr) (T := F_Pr) (N := 18) (j := 3) in_Pr rfl (by decide) mw_438 d_Ru_lookAtLimits_52))))) (os_n (os_n (os_l (so_aload_n d_Ru_lookAtLimits_55 rfl)) (os_n (os_l (so_get (C := R_Ru) (T := F_Ru) (N := 21) (j := 6) in_Ru rfl (by decide) mw_519 d_Ru_lookAtLimits_56)) (os_l (so_iload_n d_Ru_lookAtLimits_59 rfl)))) (os_n (os_l (so_iaload d_Ru_lookAtLimits_60)) (os_n (os_l (so_iaload d_Ru_lookAtLimits_61)) (os_l (so_istore d_Ru_lookAtLimits_62 (by decide))))))) (os_n (os_n (os_n (os_l (so_iload d_Ru_lookAtLimits_64)) (os_n (os_l (so_bipush d_Ru_lookAtLimits_66 (by decide))) (os_l (so_icne d_Ru_lookAtLimits_68 (by decide))))) (os_n (os_l (so_aload_n d_Ru_lookAtLimits_71 rfl)) (os_n (os_l (so_get (C := R_Ru) (T := F_Ru) (N := 21) (j := 10) in_Ru rfl (by decide) mw_523 d_Ru_lookAtLimits_72)) (os_l (so_iload_n d_Ru_lookAtLimits_75 rfl))))) (os_n (os_n (os_l (so_iaload d_Ru_lookAtLimits_76)) (os_n (os_l (so_aload_n d_Ru_lookAtLimits_77 rfl)) (os_l (so_get (C := R_Ru) (T := F_Ru) (N := 21) (j := 7) in_Ru rfl (by decide) mw_520 d_Ru_lookAtLimits_78)))) (os_n (os_n (os_l (so_iload_n d_Ru_lookAtLimits_81 rfl)) (os_l (so_iaload d_Ru_lookAtLimits_82))) (os_n (os_l (so_icne d_Ru_lookAtLimits_83 (by decide))) (os_l (so_aload_n d_Ru_lookAtLimits_86 rfl)))))))) (os_n (os_n (os_n (os_n (os_n (os_l (so_iload_n d_Ru_lookAtLimits_87 rfl)) (os_n (os_l (so_callV (iv := mi_Ru_lookAtLimit) rfl rfl rfl mw_1353 mw_1355 sl_66 mw_11 mw_1356 ⟨by decide +kernel, by decide +kernel, by decide +kernel⟩ (by decide) d_Ru_lookAtLimits_88)) (os_l (so_iload d_Ru_lookAtLimits_91)))) (os_n (os_l (so_bipush d_Ru_lookAtLimits_93 (by decide))) (os_n (os_l (so_iceq d_Ru_lookAtLimits_95 (by decide))) (os_l (so_aload_n d_Ru_lookAtLimits_98 rfl))))) (os_n (os_n (os_l (so_get (C := R_Ru) (T := F_Ru) (N := 21) (j := 10) in_Ru rfl (by decide) mw_523 d_Ru_lookAtLimits_99)) (os_n (os_l (so_iload_n d_Ru_lookAtLimits_102 rfl)) (os_l (so_iaload d_Ru_lookAtLimits_103)))) (os_n (os_l (so_iflt d_Ru_lookAtLimits_104 (by decide))) (os_n (os_l (so_aload_n d_Ru_lookAtLimits_107 rfl)) (os_l (so_aload_n d_Ru_lookAtLimits_108 rfl)))))) (os_n (os_n (os_n (os_l (so_get (C := R_Ru) (T := F_Ru) (N := 21) (j := 10) in_Ru rfl (by decide) mw_523 d_Ru_lookAtLimits_109)) (os_n (os_l (so_iload_n d_Ru_lookAtLimits_112 rfl)) (os_l (so_iaload d_Ru_lookAtLimits_113)))) (os_n (os_l (so_iload_n d_Ru_lookAtLimits_114 rfl)) (os_n (os_l (so_iconst d_Ru_lookAtLimits_115 (by decide))) (os_l (so_iadd d_Ru_lookAtLimits_116))))) (os_n (os_n (os_l (so_callV (iv := mi_Ru_lookAtLimits) rfl rfl rfl mw_1345 mw_1347 sl_64 mw_11 mw_1348 ⟨by decide +kernel, by decide +kernel, by decide +kernel⟩ (by decide) d_Ru_lookAtLimits_117)) (os_n (os_l (so_iload d_Ru_lookAtLimits_120)) (os_l (so_bipush d_Ru_lookAtLimits_122 (by decide))))) (os_n (os_n (os_l (so_icne d_Ru_lookAtLimits_124 (by decide))) (os_l (so_aload_n d_Ru_lookAtLimits_127 rfl))) (os_n (os_l (so_get (C := R_Ru) (T := F_Ru) (N := 21) (j := 7) in_Ru rfl (by decide) mw_520 d_Ru_lookAtLimits_128)) (os_l (so_iload_n d_Ru_lookAtLimits_131 rfl))))))) (os_n (os_n (os_n (os_n (os_l (so_iaload d_Ru_lookAtLimits_132)) (os_n (os_l (so_goto d_Ru_lookAtLimits_133 (by decide))) (os_l (so_iconst d_Ru_lookAtLimits_136 (by decide))))) (os_n (os_l (so_istore d_Ru_lookAtLimits_137 (by decide))) (os_n (os_l (so_iconst d_Ru_lookAtLimits_139 (by decide))) (os_l (so_istore d_Ru_lookAtLimits_140 (by decide)))))) (os_n (os_n (os_l (so_iload d_Ru_lookAtLimits_142)) (os_n (os_l (so_sipush d_Ru_lookAtLimits_144 (by decide))) (os_l (so_icgt d_Ru_lookAtLimits_147 (by decide))))) (os_n (os_l (so_iload d_Ru_lookAtLimits_150)) (os_n (os_l (so_iflt d_Ru_lookAtLimits_152 (by decide))) (os_l (so_aload_n d_Ru_lookAtLimits_155 rfl)))))) (os_n (os_n (os_n (os_l (so_iload d_Ru_lookAtLimits_156)) (os_n (os_l (so_iload_n d_Ru_lookAtLimits_158 rfl)) (os_l (so_iconst d_Ru_lookAtLimits_159 (by decide))))) (os_n (os_l (so_iadd d_Ru_lookAtLimits_160)) (os_n (os_l (so_callV (iv := mi_Ru_lookAtLimits) rfl rfl rfl mw_1345 mw_1347 sl_64 mw_11 mw_1348 ⟨by decide +kernel, by decide +kernel, by decide +kernel⟩ (by decide) d_Ru_lookAtLimits_161)) (os_l (so_aload_n d_Ru_lookAtLimits_164 rfl))))) (os_n (os_n (os_l (so_get (C := R_Ru) (T := F_Ru) (N := 21) (j := 8) in_Ru rfl (by decide) mw_521 d_Ru_lookAtLimits_165)) (os_n (os_l (so_iload d_Ru_lookAtLimits_168)) (os_l (so_iaload d_Ru_lookAtLimits_170)))) (os_n (os_n (os_l (so_istore d_Ru_lookAtLimits_171 (by decide))) (os_l (so_iinc d_Ru_lookAtLimits_173 (by decide) (by decide)))) (os_n (os_l (so_goto d_Ru_lookAtLimits_176 (by decide))) (os_l (so_return rfl d_Ru_lookAtLimits_179)))))))))
abbrev t_Ru_lookAtLimit_83 : List UInt8 := 177 :: []
abbrev t_Ru_lookAtLimit_80 : List UInt8 := 182 :: 0 :: 138 :: t_Ru_lookAtLimit_83
abbrev t_Ru_lookAtLimit_79 : List UInt8 := 46 :: t_Ru_lookAtLimit_80
abbrev t_Ru_lookAtLimit_78 : List UInt8 := 46 :: t_Ru_lookAtLimit_79
abbrev t_Ru_lookAtLimit_77 : List UInt8 := 27 :: t_Ru_lookAtLimit_78
abbrev t_Ru_lookAtLimit_74 : List UInt8 := 180 :: 0 :: 26 :: t_Ru_lookAtLimit_77
abbrev t_Ru_lookAtLimit_73 : List UInt8 := 42 :: t_Ru_lookAtLimit_74
abbrev t_Ru_lookAtLimit_70 : List UInt8 := 180 :: 0 :: 29 :: t_Ru_lookAtLimit_73
abbrev t_Ru_lookAtLimit_69 : List UInt8 := 42 :: t_Ru_lookAtLimit_70
abbrev t_Ru_lookAtLimit_68 : List UInt8 := 27 :: t_Ru_lookAtLimit_69
abbrev t_Ru_lookAtLimit_67 : List UInt8 := 42 :: t_Ru_lookAtLimit_68
abbrev t_Ru_lookAtLimit_64 : List UInt8 := 182 :: 0 :: 116 :: t_Ru_lookAtLimit_67
abbrev t_Ru_lookAtLimit_63 : List UInt8 := 6 :: t_Ru_lookAtLimit_64
abbrev t_Ru_lookAtLimit_62 : List UInt8 := 46 :: t_Ru_lookAtLimit_63
abbrev t_Ru_lookAtLimit_61 : List UInt8 := 27 :: t_Ru_lookAtLimit_62
abbrev t_Ru_lookAtLimit_58 : List UInt8 := 180 :: 0 :: 22 :: t_Ru_lookAtLimit_61
abbrev t_Ru_lookAtLimit_57 : List UInt8 := 42 :: t_Ru_lookAtLimit_58
abbrev t_Ru_lookAtLimit_54 : List UInt8 := 180 :: 0 :: 111 :: t_Ru_lookAtLimit_57
abbrev t_Ru_lookAtLimit_51 : List UInt8 := 180 :: 0 :: 62 :: t_Ru_lookAtLimit_54
abbrev t_Ru_lookAtLimit_50 : List UInt8 := 42 :: t_Ru_lookAtLimit_51
abbrev t_Ru_lookAtLimit_47 : List UInt8 := 180 :: 0 :: 58 :: t_Ru_lookAtLimit_50
abbrev t_Ru_lookAtLimit_46 : List UInt8 := 42 :: t_Ru_lookAtLimit_47
abbrev t_Ru_lookAtLimit_43 : List UInt8 := 154 :: 0 :: 40 :: t_Ru_lookAtLimit_46
abbrev t_Ru_lookAtLimit_42 : List UInt8 := 148 :: t_Ru_lookAtLimit_43
abbrev t_Ru_lookAtLimit_41 : List UInt8 := 9 :: t_Ru_lookAtLimit_42
abbrev t_Ru_lookAtLimit_40 : List UInt8 := 32 :: t_Ru_lookAtLimit_41
abbrev t_Ru_lookAtLimit_37 : List UInt8 := 154 :: 0 :: 46 :: t_Ru_lookAtLimit_40
abbrev t_Ru_lookAtLimit_34 : List UInt8 := 182 :: 0 :: 103 :: t_Ru_lookAtLimit_37
abbrev t_Ru_lookAtLimit_33 : List UInt8 := 42 :: t_Ru_lookAtLimit_34
abbrev t_Ru_lookAtLimit_32 : List UInt8 := 65 :: t_Ru_lookAtLimit_33
abbrev t_Ru_lookAtLimit_29 : List UInt8 := 182 :: 0 :: 134 :: t_Ru_lookAtLimit_32
abbrev t_Ru_lookAtLimit_28 : List UInt8 := 46 :: t_Ru_lookAtLimit_29
abbrev t_Ru_lookAtLimit_27 : List UInt8 := 46 :: t_Ru_lookAtLimit_28
abbrev t_Ru_lookAtLimit_26 : List UInt8 := 27 :: t_Ru_lookAtLimit_27
abbrev t_Ru_lookAtLimit_23 : List UInt8 := 180 :: 0 :: 22 :: t_Ru_lookAtLimit_26
abbrev t_Ru_lookAtLimit_22 : List UInt8 := 42 :: t_Ru_lookAtLimit_23
abbrev t_Ru_lookAtLimit_19 : List UInt8 := 180 :: 0 :: 131 :: t_Ru_lookAtLimit_22
abbrev t_Ru_lookAtLimit_16 : List UInt8 := 180 :: 0 :: 12 :: t_Ru_lookAtLimit_19
abbrev t_Ru_lookAtLimit_15 : List UInt8 := 42 :: t_Ru_lookAtLimit_16
abbrev t_Ru_lookAtLimit_14 : List UInt8 := 46 :: t_Ru_lookAtLimit_15
abbrev t_Ru_lookAtLimit_13 : List UInt8 := 46 :: t_Ru_lookAtLimit_14
abbrev t_Ru_lookAtLimit_12 : List UInt8 := 27 :: t_Ru_lookAtLimit_13
abbrev t_Ru_lookAtLimit_9 : List UInt8 := 180 :: 0 :: 22 :: t_Ru_lookAtLimit_12
abbrev t_Ru_lookAtLimit_8 : List UInt8 := 42 :: t_Ru_lookAtLimit_9
abbrev t_Ru_lookAtLimit_5 : List UInt8 := 180 :: 0 :: 128 :: t_Ru_lookAtLimit_8
abbrev t_Ru_lookAtLimit_2 : List UInt8 := 180 :: 0 :: 12 :: t_Ru_lookAtLimit_5
abbrev t_Ru_lookAtLimit_1 : List UInt8 := 42 :: t_Ru_lookAtLimit_2
abbrev t_Ru_lookAtLimit_0 : List UInt8 := 42 :: t_Ru_lookAtLimit_1
theorem a_Ru_lookAtLimit_0 : dk_at b_Ru_lookAtLimit 0 t_Ru_lookAtLimit_0 := dk_start (by decide +kernel)
theorem a_Ru_lookAtLimit_1 : dk_at b_Ru_lookAtLimit 1 t_Ru_lookAtLimit_1 := dk_go 1 a_Ru_lookAtLimit_0 rfl
theorem a_Ru_lookAtLimit_2 : dk_at b_Ru_lookAtLimit 2 t_Ru_lookAtLimit_2 := dk_go 1 a_Ru_lookAtLimit_1 rfl
theorem a_Ru_lookAtLimit_5 : dk_at b_Ru_lookAtLimit 5 t_Ru_lookAtLimit_5 := dk_go 3 a_Ru_lookAtLimit_2 rfl
theorem a_Ru_lookAtLimit_8 : dk_at b_Ru_lookAtLimit 8 t_Ru_lookAtLimit_8 := dk_go 3 a_Ru_lookAtLimit_5 rfl
theorem a_Ru_lookAtLimit_9 : dk_at b_Ru_lookAtLimit 9 t_Ru_lookAtLimit_9 := dk_go 1 a_Ru_lookAtLimit_8 rfl
theorem a_Ru_lookAtLimit_12 : dk_at b_Ru_lookAtLimit 12 t_Ru_lookAtLimit_12 := dk_go 3 a_Ru_lookAtLimit_9 rfl
theorem a_Ru_lookAtLimit_13 : dk_at b_Ru_lookAtLimit 13 t_Ru_lookAtLimit_13 := dk_go 1 a_Ru_lookAtLimit_12 rfl
theorem a_Ru_lookAtLimit_14 : dk_at b_Ru_lookAtLimit 14 t_Ru_lookAtLimit_14 := dk_go 1 a_Ru_lookAtLimit_13 rfl
theorem a_Ru_lookAtLimit_15 : dk_at b_Ru_lookAtLimit 15 t_Ru_lookAtLimit_15 := dk_go 1 a_Ru_lookAtLimit_14 rfl
theorem a_Ru_lookAtLimit_16 : dk_at b_Ru_lookAtLimit 16 t_Ru_lookAtLimit_16 := dk_go 1 a_Ru_lookAtLimit_15 rfl
theorem a_Ru_lookAtLimit_19 : dk_at b_Ru_lookAtLimit 19 t_Ru_lookAtLimit_19 := dk_go 3 a_Ru_lookAtLimit_16 rfl
theorem a_Ru_lookAtLimit_22 : dk_at b_Ru_lookAtLimit 22 t_Ru_lookAtLimit_22 := dk_go 3 a_Ru_lookAtLimit_19 rfl
theorem a_Ru_lookAtLimit_23 : dk_at b_Ru_lookAtLimit 23 t_Ru_lookAtLimit_23 := dk_go 1 a_Ru_lookAtLimit_22 rfl
theorem a_Ru_lookAtLimit_26 : dk_at b_Ru_lookAtLimit 26 t_Ru_lookAtLimit_26 := dk_go 3 a_Ru_lookAtLimit_23 rfl
theorem a_Ru_lookAtLimit_27 : dk_at b_Ru_lookAtLimit 27 t_Ru_lookAtLimit_27 := dk_go 1 a_Ru_lookAtLimit_26 rfl
theorem a_Ru_lookAtLimit_28 : dk_at b_Ru_lookAtLimit 28 t_Ru_lookAtLimit_28 := dk_go 1 a_Ru_lookAtLimit_27 rfl
theorem a_Ru_lookAtLimit_29 : dk_at b_Ru_lookAtLimit 29 t_Ru_lookAtLimit_29 := dk_go 1 a_Ru_lookAtLimit_28 rfl
theorem a_Ru_lookAtLimit_32 : dk_at b_Ru_lookAtLimit 32 t_Ru_lookAtLimit_32 := dk_go 3 a_Ru_lookAtLimit_29 rfl
theorem a_Ru_lookAtLimit_33 : dk_at b_Ru_lookAtLimit 33 t_Ru_lookAtLimit_33 := dk_go 1 a_Ru_lookAtLimit_32 rfl
theorem a_Ru_lookAtLimit_34 : dk_at b_Ru_lookAtLimit 34 t_Ru_lookAtLimit_34 := dk_go 1 a_Ru_lookAtLimit_33 rfl
theorem a_Ru_lookAtLimit_37 : dk_at b_Ru_lookAtLimit 37 t_Ru_lookAtLimit_37 := dk_go 3 a_Ru_lookAtLimit_34 rfl
theorem a_Ru_lookAtLimit_40 : dk_at b_Ru_lookAtLimit 40 t_Ru_lookAtLimit_40 := dk_go 3 a_Ru_lookAtLimit_37 rfl
theorem a_Ru_lookAtLimit_41 : dk_at b_Ru_lookAtLimit 41 t_Ru_lookAtLimit_41 := dk_go 1 a_Ru_lookAtLimit_40 rfl
theorem a_Ru_lookAtLimit_42 : dk_at b_Ru_lookAtLimit 42 t_Ru_lookAtLimit_42 := dk_go 1 a_Ru_lookAtLimit_41 rfl
theorem a_Ru_lookAtLimit_43 : dk_at b_Ru_lookAtLimit 43 t_Ru_lookAtLimit_43 := dk_go 1 a_Ru_lookAtLimit_42 rfl
theorem a_Ru_lookAtLimit_46 : dk_at b_Ru_lookAtLimit 46 t_Ru_lookAtLimit_46 := dk_go 3 a_Ru_lookAtLimit_43 rfl
theorem a_Ru_lookAtLimit_47 : dk_at b_Ru_lookAtLimit 47 t_Ru_lookAtLimit_47 := dk_go 1 a_Ru_lookAtLimit_46 rfl
theorem a_Ru_lookAtLimit_50 : dk_at b_Ru_lookAtLimit 50 t_Ru_lookAtLimit_50 := dk_go 3 a_Ru_lookAtLimit_47 rfl
theorem a_Ru_lookAtLimit_51 : dk_at b_Ru_lookAtLimit 51 t_Ru_lookAtLimit_51 := dk_go 1 a_Ru_lookAtLimit_50 rfl
theorem a_Ru_lookAtLimit_54 : dk_at b_Ru_lookAtLimit 54 t_Ru_lookAtLimit_54 := dk_go 3 a_Ru_lookAtLimit_51 rfl
theorem a_Ru_lookAtLimit_57 : dk_at b_Ru_lookAtLimit 57 t_Ru_lookAtLimit_57 := dk_go 3 a_Ru_lookAtLimit_54 rfl
theorem a_Ru_lookAtLimit_58 : dk_at b_Ru_lookAtLimit 58 t_Ru_lookAtLimit_58 := dk_go 1 a_Ru_lookAtLimit_57 rfl
theorem a_Ru_lookAtLimit_61 : dk_at b_Ru_lookAtLimit 61 t_Ru_lookAtLimit_61 := dk_go 3 a_Ru_lookAtLimit_58 rfl
theorem a_Ru_lookAtLimit_62 : dk_at b_Ru_lookAtLimit 62 t_Ru_lookAtLimit_62 := dk_go 1 a_Ru_lookAtLimit_61 rfl
theorem a_Ru_lookAtLimit_63 : dk_at b_Ru_lookAtLimit 63 t_Ru_lookAtLimit_63 := dk_go 1 a_Ru_lookAtLimit_62 rfl
theorem a_Ru_lookAtLimit_64 : dk_at b_Ru_lookAtLimit 64 t_Ru_lookAtLimit_64 := dk_go 1 a_Ru_lookAtLimit_63 rfl
theorem a_Ru_lookAtLimit_67 : dk_at b_Ru_lookAtLimit 67 t_Ru_lookAtLimit_67 := dk_go 3 a_Ru_lookAtLimit_64 rfl
theorem a_Ru_lookAtLimit_68 : dk_at b_Ru_lookAtLimit 68 t_Ru_lookAtLimit_68 := dk_go 1 a_Ru_lookAtLimit_67 rfl
theorem a_Ru_lookAtLimit_69 : dk_at b_Ru_lookAtLimit 69 t_Ru_lookAtLimit_69 := dk_go 1 a_Ru_lookAtLimit_68 rfl
theorem a_Ru_lookAtLimit_70 : dk_at b_Ru_lookAtLimit 70 t_Ru_lookAtLimit_70 := dk_go 1 a_Ru_lookAtLimit_69 rfl
theorem a_Ru_lookAtLimit_73 : dk_at b_Ru_lookAtLimit 73 t_Ru_lookAtLimit_73 := dk_go 3 a_Ru_lookAtLimit_70 rfl
theorem a_Ru_lookAtLimit_74 : dk_at b_Ru_lookAtLimit 74 t_Ru_lookAtLimit_74 := dk_go 1 a_Ru_lookAtLimit_73 rfl
theorem a_Ru_lookAtLimit_77 : dk_at b_Ru_lookAtLimit 77 t_Ru_lookAtLimit_77 := dk_go 3 a_Ru_lookAtLimit_74 rfl
theorem a_Ru_lookAtLimit_78 : dk_at b_Ru_lookAtLimit 78 t_Ru_lookAtLimit_78 := dk_go 1 a_Ru_lookAtLimit_77 rfl
theorem a_Ru_lookAtLimit_79 : dk_at b_Ru_lookAtLimit 79 t_Ru_lookAtLimit_79 := dk_go 1 a_Ru_lookAtLimit_78 rfl
theorem a_Ru_lookAtLimit_80 : dk_at b_Ru_lookAtLimit 80 t_Ru_lookAtLimit_80 := dk_go 1 a_Ru_lookAtLimit_79 rfl
theorem a_Ru_lookAtLimit_83 : dk_at b_Ru_lookAtLimit 83 t_Ru_lookAtLimit_83 := dk_go 3 a_Ru_lookAtLimit_80 rfl
theorem d_Ru_lookAtLimit_0 : decode b_Ru_lookAtLimit 0 = .ok (.aload_n 0, 1) := dk_0 a_Ru_lookAtLimit_0 (dko_42 _)
theorem d_Ru_lookAtLimit_1 : decode b_Ru_lookAtLimit 1 = .ok (.aload_n 0, 1) := dk_0 a_Ru_lookAtLimit_1 (dko_42 _)
theorem d_Ru_lookAtLimit_2 : decode b_Ru_lookAtLimit 2 = .ok (.getfield 12, 3) := dk_U2 a_Ru_lookAtLimit_2 (dko_180 _) rfl
theorem d_Ru_lookAtLimit_5 : decode b_Ru_lookAtLimit 5 = .ok (.getfield 128, 3) := dk_U2 a_Ru_lookAtLimit_5 (dko_180 _) rfl
theorem d_Ru_lookAtLimit_8 : decode b_Ru_lookAtLimit 8 = .ok (.aload_n 0, 1) := dk_0 a_Ru_lookAtLimit_8 (dko_42 _)
theorem d_Ru_lookAtLimit_9 : decode b_Ru_lookAtLimit 9 = .ok (.getfield 22, 3) := dk_U2 a_Ru_lookAtLimit_9 (dko_180 _) rfl
theorem d_Ru_lookAtLimit_12 : decode b_Ru_lookAtLimit 12 = .ok (.iload_n 1, 1) := dk_0 a_Ru_lookAtLimit_12 (dko_27 _)
theorem d_Ru_lookAtLimit_13 : decode b_Ru_lookAtLimit 13 = .ok (.iaload, 1) := dk_0 a_Ru_lookAtLimit_13 (dko_46 _)
theorem d_Ru_lookAtLimit_14 : decode b_Ru_lookAtLimit 14 = .ok (.iaload, 1) := dk_0 a_Ru_lookAtLimit_14 (dko_46 _)
theorem d_Ru_lookAtLimit_15 : decode b_Ru_lookAtLimit 15 = .ok (.aload_n 0, 1) := dk_0 a_Ru_lookAtLimit_15 (dko_42 _)
theorem d_Ru_lookAtLimit_16 : decode b_Ru_lookAtLimit 16 = .ok (.getfield 12, 3) := dk_U2 a_Ru_lookAtLimit_16 (dko_180 _) rfl
theorem d_Ru_lookAtLimit_19 : decode b_Ru_lookAtLimit 19 = .ok (.getfield 131, 3) := dk_U2 a_Ru_lookAtLimit_19 (dko_180 _) rfl
theorem d_Ru_lookAtLimit_22 : decode b_Ru_lookAtLimit 22 = .ok (.aload_n 0, 1) := dk_0 a_Ru_lookAtLimit_22 (dko_42 _)
theorem d_Ru_lookAtLimit_23 : decode b_Ru_lookAtLimit 23 = .ok (.getfield 22, 3) := dk_U2 a_Ru_lookAtLimit_23 (dko_180 _) rfl
theorem d_Ru_lookAtLimit_26 : decode b_Ru_lookAtLimit 26 = .ok (.iload_n 1, 1) := dk_0 a_Ru_lookAtLimit_26 (dko_27 _)
theorem d_Ru_lookAtLimit_27 : decode b_Ru_lookAtLimit 27 = .ok (.iaload, 1) := dk_0 a_Ru_lookAtLimit_27 (dko_46 _)
theorem d_Ru_lookAtLimit_28 : decode b_Ru_lookAtLimit 28 = .ok (.iaload, 1) := dk_0 a_Ru_lookAtLimit_28 (dko_46 _)
theorem d_Ru_lookAtLimit_29 : decode b_Ru_lookAtLimit 29 = .ok (.invokevirtual 134, 3) := dk_U2 a_Ru_lookAtLimit_29 (dko_182 _) rfl
theorem d_Ru_lookAtLimit_32 : decode b_Ru_lookAtLimit 32 = .ok (.lstore_n 2, 1) := dk_0 a_Ru_lookAtLimit_32 (dko_65 _)
theorem d_Ru_lookAtLimit_33 : decode b_Ru_lookAtLimit 33 = .ok (.aload_n 0, 1) := dk_0 a_Ru_lookAtLimit_33 (dko_42 _)
theorem d_Ru_lookAtLimit_34 : decode b_Ru_lookAtLimit 34 = .ok (.invokevirtual 103, 3) := dk_U2 a_Ru_lookAtLimit_34 (dko_182 _) rfl
theorem d_Ru_lookAtLimit_37 : decode b_Ru_lookAtLimit 37 = .ok (.ifCond .ne 46, 3) := dk_S2 a_Ru_lookAtLimit_37 (dko_154 _) (by decide +kernel)
theorem d_Ru_lookAtLimit_40 : decode b_Ru_lookAtLimit 40 = .ok (.lload_n 2, 1) := dk_0 a_Ru_lookAtLimit_40 (dko_32 _)
theorem d_Ru_lookAtLimit_41 : decode b_Ru_lookAtLimit 41 = .ok (.lconst 0, 1) := dk_0 a_Ru_lookAtLimit_41 (dko_9 _)
theorem d_Ru_lookAtLimit_42 : decode b_Ru_lookAtLimit 42 = .ok (.lcmp, 1) := dk_0 a_Ru_lookAtLimit_42 (dko_148 _)
theorem d_Ru_lookAtLimit_43 : decode b_Ru_lookAtLimit 43 = .ok (.ifCond .ne 40, 3) := dk_S2 a_Ru_lookAtLimit_43 (dko_154 _) (by decide +kernel)
theorem d_Ru_lookAtLimit_46 : decode b_Ru_lookAtLimit 46 = .ok (.aload_n 0, 1) := dk_0 a_Ru_lookAtLimit_46 (dko_42 _)
theorem d_Ru_lookAtLimit_47 : decode b_Ru_lookAtLimit 47 = .ok (.getfield 58, 3) := dk_U2 a_Ru_lookAtLimit_47 (dko_180 _) rfl
theorem d_Ru_lookAtLimit_50 : decode b_Ru_lookAtLimit 50 = .ok (.aload_n 0, 1) := dk_0 a_Ru_lookAtLimit_50 (dko_42 _)
theorem d_Ru_lookAtLimit_51 : decode b_Ru_lookAtLimit 51 = .ok (.getfield 62, 3) := dk_U2 a_Ru_lookAtLimit_51 (dko_180 _) rfl
theorem d_Ru_lookAtLimit_54 : decode b_Ru_lookAtLimit 54 = .ok (.getfield 111, 3) := dk_U2 a_Ru_lookAtLimit_54 (dko_180 _) rfl
theorem d_Ru_lookAtLimit_57 : decode b_Ru_lookAtLimit 57 = .ok (.aload_n 0, 1) := dk_0 a_Ru_lookAtLimit_57 (dko_42 _)
theorem d_Ru_lookAtLimit_58 : decode b_Ru_lookAtLimit 58 = .ok (.getfield 22, 3) := dk_U2 a_Ru_lookAtLimit_58 (dko_180 _) rfl
theorem d_Ru_lookAtLimit_61 : decode b_Ru_lookAtLimit 61 = .ok (.iload_n 1, 1) := dk_0 a_Ru_lookAtLimit_61 (dko_27 _)
theorem d_Ru_lookAtLimit_62 : decode b_Ru_lookAtLimit 62 = .ok (.iaload, 1) := dk_0 a_Ru_lookAtLimit_62 (dko_46 _)
theorem d_Ru_lookAtLimit_63 : decode b_Ru_lookAtLimit 63 = .ok (.iconst 3, 1) := dk_0 a_Ru_lookAtLimit_63 (dko_6 _)
theorem d_Ru_lookAtLimit_64 : decode b_Ru_lookAtLimit 64 = .ok (.invokevirtual 116, 3) := dk_U2 a_Ru_lookAtLimit_64 (dko_182 _) rfl
theorem d_Ru_lookAtLimit_67 : decode b_Ru_lookAtLimit 67 = .ok (.aload_n 0, 1) := dk_0 a_Ru_lookAtLimit_67 (dko_42 _)
theorem d_Ru_lookAtLimit_68 : decode b_Ru_lookAtLimit 68 = .ok (.iload_n 1, 1) := dk_0 a_Ru_lookAtLimit_68 (dko_27 _)
theorem d_Ru_lookAtLimit_69 : decode b_Ru_lookAtLimit 69 = .ok (.aload_n 0, 1) := dk_0 a_Ru_lookAtLimit_69 (dko_42 _)
theorem d_Ru_lookAtLimit_70 : decode b_Ru_lookAtLimit 70 = .ok (.getfield 29, 3) := dk_U2 a_Ru_lookAtLimit_70 (dko_180 _) rfl
theorem d_Ru_lookAtLimit_73 : decode b_Ru_lookAtLimit 73 = .ok (.aload_n 0, 1) := dk_0 a_Ru_lookAtLimit_73 (dko_42 _)
theorem d_Ru_lookAtLimit_74 : decode b_Ru_lookAtLimit 74 = .ok (.getfield 26, 3) := dk_U2 a_Ru_lookAtLimit_74 (dko_180 _) rfl
theorem d_Ru_lookAtLimit_77 : decode b_Ru_lookAtLimit 77 = .ok (.iload_n 1, 1) := dk_0 a_Ru_lookAtLimit_77 (dko_27 _)
theorem d_Ru_lookAtLimit_78 : decode b_Ru_lookAtLimit 78 = .ok (.iaload, 1) := dk_0 a_Ru_lookAtLimit_78 (dko_46 _)
theorem d_Ru_lookAtLimit_79 : decode b_Ru_lookAtLimit 79 = .ok (.iaload, 1) := dk_0 a_Ru_lookAtLimit_79 (dko_46 _)
theorem d_Ru_lookAtLimit_80 : decode b_Ru_lookAtLimit 80 = .ok (.invokevirtual 138, 3) := dk_U2 a_Ru_lookAtLimit_80 (dko_182 _) rfl
theorem d_Ru_lookAtLimit_83 : decode b_Ru_lookAtLimit 83 = .ok (.return_, 1) := dk_0 a_Ru_lookAtLimit_83 (dko_177 _)
set_option maxHeartbeats 4000000 in
set_option maxRecDepth 100000 in
theorem ok_Ru_lookAtLimit (pc : Nat) : OpS mt mi_Ru_lookAtLimit pc (cs_Ru_lookAtLimit pc) := (os_n (os_n (os_n (os_n (os_n (os_l (so_aload_n d_Ru_lookAtLimit_0 rfl)) (os_n (os_l (so_aload_n d_Ru_lookAtLimit_1 rfl)) (os_l (so_get (C := R_Ru) (T := F_Ru) (N := 21) (j := 3) in_Ru rfl (by decide) mw_514 d_Ru_lookAtLimit_2)))) (os_n (os_l (so_get (C := R_Pr) (T := F_Pr) (N := 18) (j := 5) in_Pr rfl (by decide) mw_444 d_Ru_lookAtLimit_5)) (os_n (os_l (so_aload_n d_Ru_lookAtLimit_8 rfl)) (os_l (so_get (C := R_Ru) (T := F_Ru) (N := 21) (j := 6) in_Ru rfl (by decide) mw_519 d_Ru_lookAtLimit_9))))) (os_n (os_n (os_l (so_iload_n d_Ru_lookAtLimit_12 rfl)) (os_n (os_l (so_iaload d_Ru_lookAtLimit_13)) (os_l (so_iaload d_Ru_lookAtLimit_14)))) (os_n (os_l (so_aload_n d_Ru_lookAtLimit_15 rfl)) (os_n (os_l (so_get (C := R_Ru) (T := F_Ru) (N := 21) (j := 3) in_Ru rfl (by decide) mw_514 d_Ru_lookAtLimit_16)) (os_l (so_get (C := R_Pr) (T := F_Pr) (N := 18) (j := 6) in_Pr rfl (by decide) mw_447 d_Ru_lookAtLimit_19)))))) (os_n (os_n (os_n (os_l (so_aload_n d_Ru_lookAtLimit_22 rfl)) (os_n (os_l (so_get (C := R_Ru) (T := F_Ru) (N := 21) (j := 6) in_Ru rfl (by decide) mw_519 d_Ru_lookAtLimit_23)) (os_l (so_iload_n d_Ru_lookAtLimit_26 rfl)))) (os_n (os_l (so_iaload d_Ru_lookAtLimit_27)) (os_n (os_l (so_iaload d_Ru_lookAtLimit_28)) (os_l (so_callV (iv := mi_Ru_reckon) rfl rfl rfl mw_1357 mw_1359 sl_67 mw_11 mw_1360 ⟨by decide +kernel, by decide +kernel, by decide +kernel⟩ (by decide) d_Ru_lookAtLimit_29))))) (os_n (os_n (os_l (so_lstore_n d_Ru_lookAtLimit_32 rfl (by decide))) (os_n (os_l (so_aload_n d_Ru_lookAtLimit_33 rfl)) (os_l (so_callV (iv := mi_Ru_isOver) rfl rfl rfl mw_1349 mw_1351 sl_65 mw_11 mw_1352 ⟨by decide +kernel, by decide +kernel, by decide +kernel⟩ (by decide) d_Ru_lookAtLimit_34)))) (os_n (os_l (so_ifne d_Ru_lookAtLimit_37 (by decide))) (os_n (os_l (so_lload_n d_Ru_lookAtLimit_40 rfl)) (os_l (so_lconst d_Ru_lookAtLimit_41 (by decide)))))))) (os_n (os_n (os_n (os_n (os_l (so_lcmp d_Ru_lookAtLimit_42)) (os_n (os_l (so_ifne d_Ru_lookAtLimit_43 (by decide))) (os_l (so_aload_n d_Ru_lookAtLimit_46 rfl)))) (os_n (os_l (so_get (C := R_Ru) (T := F_Ru) (N := 21) (j := 1) in_Ru rfl (by decide) mw_512 d_Ru_lookAtLimit_47)) (os_n (os_l (so_aload_n d_Ru_lookAtLimit_50 rfl)) (os_l (so_get (C := R_Ru) (T := F_Ru) (N := 21) (j := 2) in_Ru rfl (by decide) mw_513 d_Ru_lookAtLimit_51))))) (os_n (os_n (os_l (so_get (C := R_St) (T := F_St) (N := 12) (j := 1) in_St rfl (by decide) mw_154 d_Ru_lookAtLimit_54)) (os_n (os_l (so_aload_n d_Ru_lookAtLimit_57 rfl)) (os_l (so_get (C := R_Ru) (T := F_Ru) (N := 21) (j := 6) in_Ru rfl (by decide) mw_519 d_Ru_lookAtLimit_58)))) (os_n (os_l (so_iload_n d_Ru_lookAtLimit_61 rfl)) (os_n (os_l (so_iaload d_Ru_lookAtLimit_62)) (os_l (so_iconst d_Ru_lookAtLimit_63 (by decide))))))) (os_n (os_n (os_n (os_l (so_callV (iv := mi_Al_add) rfl rfl rfl mw_1365 mw_1290 mw_1291 mw_3 mw_1292 ⟨by decide +kernel, by decide +kernel, by decide +kernel⟩ (by decide) d_Ru_lookAtLimit_64)) (os_n (os_l (so_aload_n d_Ru_lookAtLimit_67 rfl)) (os_l (so_iload_n d_Ru_lookAtLimit_68 rfl)))) (os_n (os_l (so_aload_n d_Ru_lookAtLimit_69 rfl)) (os_n (os_l (so_get (C := R_Ru) (T := F_Ru) (N := 21) (j := 8) in_Ru rfl (by decide) mw_521 d_Ru_lookAtLimit_70)) (os_l (so_aload_n d_Ru_lookAtLimit_73 rfl))))) (os_n (os_n (os_l (so_get (C := R_Ru) (T := F_Ru) (N := 21) (j := 7) in_Ru rfl (by decide) mw_520 d_Ru_lookAtLimit_74)) (os_n (os_l (so_iload_n d_Ru_lookAtLimit_77 rfl)) (os_l (so_iaload d_Ru_lookAtLimit_78)))) (os_n (os_l (so_iaload d_Ru_lookAtLimit_79)) (os_n (os_l (so_callV (iv := mi_Ru_choose) rfl rfl rfl mw_1370 mw_1372 sl_69 mw_11 mw_1373 ⟨by decide +kernel, by decide +kernel, by decide +kernel⟩ (by decide) d_Ru_lookAtLimit_80)) (os_l (so_return rfl d_Ru_lookAtLimit_83))))))))
abbrev t_Ru_choose_18 : List UInt8 := 177 :: []
abbrev t_Ru_choose_17 : List UInt8 := 79 :: t_Ru_choose_18
abbrev t_Ru_choose_16 : List UInt8 := 3 :: t_Ru_choose_17
abbrev t_Ru_choose_15 : List UInt8 := 28 :: t_Ru_choose_16
abbrev t_Ru_choose_12 : List UInt8 := 180 :: 0 :: 32 :: t_Ru_choose_15
abbrev t_Ru_choose_11 : List UInt8 := 42 :: t_Ru_choose_12
abbrev t_Ru_choose_8 : List UInt8 := 155 :: 0 :: 10 :: t_Ru_choose_11
abbrev t_Ru_choose_7 : List UInt8 := 28 :: t_Ru_choose_8
abbrev t_Ru_choose_6 : List UInt8 := 79 :: t_Ru_choose_7
abbrev t_Ru_choose_5 : List UInt8 := 28 :: t_Ru_choose_6
abbrev t_Ru_choose_4 : List UInt8 := 27 :: t_Ru_choose_5
abbrev t_Ru_choose_1 : List UInt8 := 180 :: 0 :: 35 :: t_Ru_choose_4
abbrev t_Ru_choose_0 : List UInt8 := 42 :: t_Ru_choose_1
theorem a_Ru_choose_0 : dk_at b_Ru_choose 0 t_Ru_choose_0 := dk_start (by decide +kernel)
theorem a_Ru_choose_1 : dk_at b_Ru_choose 1 t_Ru_choose_1 := dk_go 1 a_Ru_choose_0 rfl
theorem a_Ru_choose_4 : dk_at b_Ru_choose 4 t_Ru_choose_4 := dk_go 3 a_Ru_choose_1 rfl
theorem a_Ru_choose_5 : dk_at b_Ru_choose 5 t_Ru_choose_5 := dk_go 1 a_Ru_choose_4 rfl
theorem a_Ru_choose_6 : dk_at b_Ru_choose 6 t_Ru_choose_6 := dk_go 1 a_Ru_choose_5 rfl
theorem a_Ru_choose_7 : dk_at b_Ru_choose 7 t_Ru_choose_7 := dk_go 1 a_Ru_choose_6 rfl
theorem a_Ru_choose_8 : dk_at b_Ru_choose 8 t_Ru_choose_8 := dk_go 1 a_Ru_choose_7 rfl
theorem a_Ru_choose_11 : dk_at b_Ru_choose 11 t_Ru_choose_11 := dk_go 3 a_Ru_choose_8 rfl
theorem a_Ru_choose_12 : dk_at b_Ru_choose 12 t_Ru_choose_12 := dk_go 1 a_Ru_choose_11 rfl
theorem a_Ru_choose_15 : dk_at b_Ru_choose 15 t_Ru_choose_15 := dk_go 3 a_Ru_choose_12 rfl
theorem a_Ru_choose_16 : dk_at b_Ru_choose 16 t_Ru_choose_16 := dk_go 1 a_Ru_choose_15 rfl
theorem a_Ru_choose_17 : dk_at b_Ru_choose 17 t_Ru_choose_17 := dk_go 1 a_Ru_choose_16 rfl
theorem a_Ru_choose_18 : dk_at b_Ru_choose 18 t_Ru_choose_18 := dk_go 1 a_Ru_choose_17 rfl
theorem d_Ru_choose_0 : decode b_Ru_choose 0 = .ok (.aload_n 0, 1) := dk_0 a_Ru_choose_0 (dko_42 _)
theorem d_Ru_choose_1 : decode b_Ru_choose 1 = .ok (.getfield 35, 3) := dk_U2 a_Ru_choose_1 (dko_180 _) rfl
theorem d_Ru_choose_4 : decode b_Ru_choose 4 = .ok (.iload_n 1, 1) := dk_0 a_Ru_choose_4 (dko_27 _)
theorem d_Ru_choose_5 : decode b_Ru_choose 5 = .ok (.iload_n 2, 1) := dk_0 a_Ru_choose_5 (dko_28 _)
theorem d_Ru_choose_6 : decode b_Ru_choose 6 = .ok (.iastore, 1) := dk_0 a_Ru_choose_6 (dko_79 _)
theorem d_Ru_choose_7 : decode b_Ru_choose 7 = .ok (.iload_n 2, 1) := dk_0 a_Ru_choose_7 (dko_28 _)
theorem d_Ru_choose_8 : decode b_Ru_choose 8 = .ok (.ifCond .lt 10, 3) := dk_S2 a_Ru_choose_8 (dko_155 _) (by decide +kernel)
theorem d_Ru_choose_11 : decode b_Ru_choose 11 = .ok (.aload_n 0, 1) := dk_0 a_Ru_choose_11 (dko_42 _)
theorem d_Ru_choose_12 : decode b_Ru_choose 12 = .ok (.getfield 32, 3) := dk_U2 a_Ru_choose_12 (dko_180 _) rfl
theorem d_Ru_choose_15 : decode b_Ru_choose 15 = .ok (.iload_n 2, 1) := dk_0 a_Ru_choose_15 (dko_28 _)
theorem d_Ru_choose_16 : decode b_Ru_choose 16 = .ok (.iconst 0, 1) := dk_0 a_Ru_choose_16 (dko_3 _)
theorem d_Ru_choose_17 : decode b_Ru_choose 17 = .ok (.iastore, 1) := dk_0 a_Ru_choose_17 (dko_79 _)
theorem d_Ru_choose_18 : decode b_Ru_choose 18 = .ok (.return_, 1) := dk_0 a_Ru_choose_18 (dko_177 _)
set_option maxHeartbeats 4000000 in
set_option maxRecDepth 100000 in
theorem ok_Ru_choose (pc : Nat) : OpS mt mi_Ru_choose pc (cs_Ru_choose pc) := (os_n (os_n (os_n (os_l (so_aload_n d_Ru_choose_0 rfl)) (os_n (os_l (so_get (C := R_Ru) (T := F_Ru) (N := 21) (j := 10) in_Ru rfl (by decide) mw_523 d_Ru_choose_1)) (os_l (so_iload_n d_Ru_choose_4 rfl)))) (os_n (os_l (so_iload_n d_Ru_choose_5 rfl)) (os_n (os_l (so_iastore d_Ru_choose_6)) (os_l (so_iload_n d_Ru_choose_7 rfl))))) (os_n (os_n (os_l (so_iflt d_Ru_choose_8 (by decide))) (os_n (os_l (so_aload_n d_Ru_choose_11 rfl)) (os_l (so_get (C := R_Ru) (T := F_Ru) (N := 21) (j := 9) in_Ru rfl (by decide) mw_522 d_Ru_choose_12)))) (os_n (os_n (os_l (so_iload_n d_Ru_choose_15 rfl)) (os_l (so_iconst d_Ru_choose_16 (by decide)))) (os_n (os_l (so_iastore d_Ru_choose_17)) (os_l (so_return rfl d_Ru_choose_18))))))
abbrev t_Ru_mayBegin_90 : List UInt8 := 172 :: []
abbrev t_Ru_mayBegin_89 : List UInt8 := 4 :: t_Ru_mayBegin_90
abbrev t_Ru_mayBegin_86 : List UInt8 := 181 :: 0 :: 96 :: t_Ru_mayBegin_89
abbrev t_Ru_mayBegin_85 : List UInt8 := 96 :: t_Ru_mayBegin_86
abbrev t_Ru_mayBegin_84 : List UInt8 := 3 :: t_Ru_mayBegin_85
abbrev t_Ru_mayBegin_81 : List UInt8 := 167 :: 0 :: 4 :: t_Ru_mayBegin_84
abbrev t_Ru_mayBegin_80 : List UInt8 := 4 :: t_Ru_mayBegin_81
abbrev t_Ru_mayBegin_77 : List UInt8 := 153 :: 0 :: 7 :: t_Ru_mayBegin_80
abbrev t_Ru_mayBegin_76 : List UInt8 := 28 :: t_Ru_mayBegin_77
abbrev t_Ru_mayBegin_73 : List UInt8 := 180 :: 0 :: 96 :: t_Ru_mayBegin_76
abbrev t_Ru_mayBegin_72 : List UInt8 := 89 :: t_Ru_mayBegin_73
abbrev t_Ru_mayBegin_71 : List UInt8 := 42 :: t_Ru_mayBegin_72
abbrev t_Ru_mayBegin_68 : List UInt8 := 181 :: 0 :: 93 :: t_Ru_mayBegin_71
abbrev t_Ru_mayBegin_67 : List UInt8 := 96 :: t_Ru_mayBegin_68
abbrev t_Ru_mayBegin_66 : List UInt8 := 4 :: t_Ru_mayBegin_67
abbrev t_Ru_mayBegin_63 : List UInt8 := 180 :: 0 :: 93 :: t_Ru_mayBegin_66
abbrev t_Ru_mayBegin_62 : List UInt8 := 89 :: t_Ru_mayBegin_63
abbrev t_Ru_mayBegin_61 : List UInt8 := 42 :: t_Ru_mayBegin_62
abbrev t_Ru_mayBegin_60 : List UInt8 := 172 :: t_Ru_mayBegin_61
abbrev t_Ru_mayBegin_59 : List UInt8 := 3 :: t_Ru_mayBegin_60
abbrev t_Ru_mayBegin_56 : List UInt8 := 182 :: 0 :: 141 :: t_Ru_mayBegin_59
abbrev t_Ru_mayBegin_55 : List UInt8 := 46 :: t_Ru_mayBegin_56
abbrev t_Ru_mayBegin_54 : List UInt8 := 27 :: t_Ru_mayBegin_55
abbrev t_Ru_mayBegin_51 : List UInt8 := 180 :: 0 :: 22 :: t_Ru_mayBegin_54
abbrev t_Ru_mayBegin_50 : List UInt8 := 42 :: t_Ru_mayBegin_51
abbrev t_Ru_mayBegin_49 : List UInt8 := 5 :: t_Ru_mayBegin_50
abbrev t_Ru_mayBegin_48 : List UInt8 := 42 :: t_Ru_mayBegin_49
abbrev t_Ru_mayBegin_45 : List UInt8 := 161 :: 0 :: 16 :: t_Ru_mayBegin_48
abbrev t_Ru_mayBegin_43 : List UInt8 := 16 :: 10 :: t_Ru_mayBegin_45
abbrev t_Ru_mayBegin_40 : List UInt8 := 180 :: 0 :: 96 :: t_Ru_mayBegin_43
abbrev t_Ru_mayBegin_39 : List UInt8 := 42 :: t_Ru_mayBegin_40
abbrev t_Ru_mayBegin_36 : List UInt8 := 153 :: 0 :: 25 :: t_Ru_mayBegin_39
abbrev t_Ru_mayBegin_35 : List UInt8 := 28 :: t_Ru_mayBegin_36
abbrev t_Ru_mayBegin_32 : List UInt8 := 162 :: 0 :: 16 :: t_Ru_mayBegin_35
abbrev t_Ru_mayBegin_29 : List UInt8 := 17 :: 3 :: 232 :: t_Ru_mayBegin_32
abbrev t_Ru_mayBegin_26 : List UInt8 := 180 :: 0 :: 93 :: t_Ru_mayBegin_29
abbrev t_Ru_mayBegin_25 : List UInt8 := 42 :: t_Ru_mayBegin_26
abbrev t_Ru_mayBegin_24 : List UInt8 := 61 :: t_Ru_mayBegin_25
abbrev t_Ru_mayBegin_23 : List UInt8 := 3 :: t_Ru_mayBegin_24
abbrev t_Ru_mayBegin_20 : List UInt8 := 167 :: 0 :: 4 :: t_Ru_mayBegin_23
abbrev t_Ru_mayBegin_19 : List UInt8 := 4 :: t_Ru_mayBegin_20
abbrev t_Ru_mayBegin_16 : List UInt8 := 160 :: 0 :: 7 :: t_Ru_mayBegin_19
abbrev t_Ru_mayBegin_14 : List UInt8 := 16 :: 26 :: t_Ru_mayBegin_16
abbrev t_Ru_mayBegin_13 : List UInt8 := 46 :: t_Ru_mayBegin_14
abbrev t_Ru_mayBegin_12 : List UInt8 := 46 :: t_Ru_mayBegin_13
abbrev t_Ru_mayBegin_11 : List UInt8 := 27 :: t_Ru_mayBegin_12
abbrev t_Ru_mayBegin_8 : List UInt8 := 180 :: 0 :: 22 :: t_Ru_mayBegin_11
abbrev t_Ru_mayBegin_7 : List UInt8 := 42 :: t_Ru_mayBegin_8
abbrev t_Ru_mayBegin_4 : List UInt8 := 180 :: 0 :: 122 :: t_Ru_mayBegin_7
abbrev t_Ru_mayBegin_1 : List UInt8 := 180 :: 0 :: 12 :: t_Ru_mayBegin_4
abbrev t_Ru_mayBegin_0 : List UInt8 := 42 :: t_Ru_mayBegin_1
theorem a_Ru_mayBegin_0 : dk_at b_Ru_mayBegin 0 t_Ru_mayBegin_0 := dk_start (by decide +kernel)
theorem a_Ru_mayBegin_1 : dk_at b_Ru_mayBegin 1 t_Ru_mayBegin_1 := dk_go 1 a_Ru_mayBegin_0 rfl
theorem a_Ru_mayBegin_4 : dk_at b_Ru_mayBegin 4 t_Ru_mayBegin_4 := dk_go 3 a_Ru_mayBegin_1 rfl
theorem a_Ru_mayBegin_7 : dk_at b_Ru_mayBegin 7 t_Ru_mayBegin_7 := dk_go 3 a_Ru_mayBegin_4 rfl
theorem a_Ru_mayBegin_8 : dk_at b_Ru_mayBegin 8 t_Ru_mayBegin_8 := dk_go 1 a_Ru_mayBegin_7 rfl
theorem a_Ru_mayBegin_11 : dk_at b_Ru_mayBegin 11 t_Ru_mayBegin_11 := dk_go 3 a_Ru_mayBegin_8 rfl
theorem a_Ru_mayBegin_12 : dk_at b_Ru_mayBegin 12 t_Ru_mayBegin_12 := dk_go 1 a_Ru_mayBegin_11 rfl
theorem a_Ru_mayBegin_13 : dk_at b_Ru_mayBegin 13 t_Ru_mayBegin_13 := dk_go 1 a_Ru_mayBegin_12 rfl
theorem a_Ru_mayBegin_14 : dk_at b_Ru_mayBegin 14 t_Ru_mayBegin_14 := dk_go 1 a_Ru_mayBegin_13 rfl
theorem a_Ru_mayBegin_16 : dk_at b_Ru_mayBegin 16 t_Ru_mayBegin_16 := dk_go 2 a_Ru_mayBegin_14 rfl
theorem a_Ru_mayBegin_19 : dk_at b_Ru_mayBegin 19 t_Ru_mayBegin_19 := dk_go 3 a_Ru_mayBegin_16 rfl
theorem a_Ru_mayBegin_20 : dk_at b_Ru_mayBegin 20 t_Ru_mayBegin_20 := dk_go 1 a_Ru_mayBegin_19 rfl
theorem a_Ru_mayBegin_23 : dk_at b_Ru_mayBegin 23 t_Ru_mayBegin_23 := dk_go 3 a_Ru_mayBegin_20 rfl
theorem a_Ru_mayBegin_24 : dk_at b_Ru_mayBegin 24 t_Ru_mayBegin_24 := dk_go 1 a_Ru_mayBegin_23 rfl
theorem a_Ru_mayBegin_25 : dk_at b_Ru_mayBegin 25 t_Ru_mayBegin_25 := dk_go 1 a_Ru_mayBegin_24 rfl
theorem a_Ru_mayBegin_26 : dk_at b_Ru_mayBegin 26 t_Ru_mayBegin_26 := dk_go 1 a_Ru_mayBegin_25 rfl
theorem a_Ru_mayBegin_29 : dk_at b_Ru_mayBegin 29 t_Ru_mayBegin_29 := dk_go 3 a_Ru_mayBegin_26 rfl
theorem a_Ru_mayBegin_32 : dk_at b_Ru_mayBegin 32 t_Ru_mayBegin_32 := dk_go 3 a_Ru_mayBegin_29 rfl
theorem a_Ru_mayBegin_35 : dk_at b_Ru_mayBegin 35 t_Ru_mayBegin_35 := dk_go 3 a_Ru_mayBegin_32 rfl
theorem a_Ru_mayBegin_36 : dk_at b_Ru_mayBegin 36 t_Ru_mayBegin_36 := dk_go 1 a_Ru_mayBegin_35 rfl
theorem a_Ru_mayBegin_39 : dk_at b_Ru_mayBegin 39 t_Ru_mayBegin_39 := dk_go 3 a_Ru_mayBegin_36 rfl
theorem a_Ru_mayBegin_40 : dk_at b_Ru_mayBegin 40 t_Ru_mayBegin_40 := dk_go 1 a_Ru_mayBegin_39 rfl
theorem a_Ru_mayBegin_43 : dk_at b_Ru_mayBegin 43 t_Ru_mayBegin_43 := dk_go 3 a_Ru_mayBegin_40 rfl
theorem a_Ru_mayBegin_45 : dk_at b_Ru_mayBegin 45 t_Ru_mayBegin_45 := dk_go 2 a_Ru_mayBegin_43 rfl
theorem a_Ru_mayBegin_48 : dk_at b_Ru_mayBegin 48 t_Ru_mayBegin_48 := dk_go 3 a_Ru_mayBegin_45 rfl
theorem a_Ru_mayBegin_49 : dk_at b_Ru_mayBegin 49 t_Ru_mayBegin_49 := dk_go 1 a_Ru_mayBegin_48 rfl
theorem a_Ru_mayBegin_50 : dk_at b_Ru_mayBegin 50 t_Ru_mayBegin_50 := dk_go 1 a_Ru_mayBegin_49 rfl
theorem a_Ru_mayBegin_51 : dk_at b_Ru_mayBegin 51 t_Ru_mayBegin_51 := dk_go 1 a_Ru_mayBegin_50 rfl
theorem a_Ru_mayBegin_54 : dk_at b_Ru_mayBegin 54 t_Ru_mayBegin_54 := dk_go 3 a_Ru_mayBegin_51 rfl
theorem a_Ru_mayBegin_55 : dk_at b_Ru_mayBegin 55 t_Ru_mayBegin_55 := dk_go 1 a_Ru_mayBegin_54 rfl
theorem a_Ru_mayBegin_56 : dk_at b_Ru_mayBegin 56 t_Ru_mayBegin_56 := dk_go 1 a_Ru_mayBegin_55 rfl
theorem a_Ru_mayBegin_59 : dk_at b_Ru_mayBegin 59 t_Ru_mayBegin_59 := dk_go 3 a_Ru_mayBegin_56 rfl
theorem a_Ru_mayBegin_60 : dk_at b_Ru_mayBegin 60 t_Ru_mayBegin_60 := dk_go 1 a_Ru_mayBegin_59 rfl
theorem a_Ru_mayBegin_61 : dk_at b_Ru_mayBegin 61 t_Ru_mayBegin_61 := dk_go 1 a_Ru_mayBegin_60 rfl
theorem a_Ru_mayBegin_62 : dk_at b_Ru_mayBegin 62 t_Ru_mayBegin_62 := dk_go 1 a_Ru_mayBegin_61 rfl
theorem a_Ru_mayBegin_63 : dk_at b_Ru_mayBegin 63 t_Ru_mayBegin_63 := dk_go 1 a_Ru_mayBegin_62 rfl
theorem a_Ru_mayBegin_66 : dk_at b_Ru_mayBegin 66 t_Ru_mayBegin_66 := dk_go 3 a_Ru_mayBegin_63 rfl
theorem a_Ru_mayBegin_67 : dk_at b_Ru_mayBegin 67 t_Ru_mayBegin_67 := dk_go 1 a_Ru_mayBegin_66 rfl
theorem a_Ru_mayBegin_68 : dk_at b_Ru_mayBegin 68 t_Ru_mayBegin_68 := dk_go 1 a_Ru_mayBegin_67 rfl
theorem a_Ru_mayBegin_71 : dk_at b_Ru_mayBegin 71 t_Ru_mayBegin_71 := dk_go 3 a_Ru_mayBegin_68 rfl
theorem a_Ru_mayBegin_72 : dk_at b_Ru_mayBegin 72 t_Ru_mayBegin_72 := dk_go 1 a_Ru_mayBegin_71 rfl
theorem a_Ru_mayBegin_73 : dk_at b_Ru_mayBegin 73 t_Ru_mayBegin_73 := dk_go 1 a_Ru_mayBegin_72 rfl
theorem a_Ru_mayBegin_76 : dk_at b_Ru_mayBegin 76 t_Ru_mayBegin_76 := dk_go 3 a_Ru_mayBegin_73 rfl
theorem a_Ru_mayBegin_77 : dk_at b_Ru_mayBegin 77 t_Ru_mayBegin_77 := dk_go 1 a_Ru_mayBegin_76 rfl
theorem a_Ru_mayBegin_80 : dk_at b_Ru_mayBegin 80 t_Ru_mayBegin_80 := dk_go 3 a_Ru_mayBegin_77 rfl
theorem a_Ru_mayBegin_81 : dk_at b_Ru_mayBegin 81 t_Ru_mayBegin_81 := dk_go 1 a_Ru_mayBegin_80 rfl
theorem a_Ru_mayBegin_84 : dk_at b_Ru_mayBegin 84 t_Ru_mayBegin_84 := dk_go 3 a_Ru_mayBegin_81 rfl
theorem a_Ru_mayBegin_85 : dk_at b_Ru_mayBegin 85 t_Ru_mayBegin_85 := dk_go 1 a_Ru_mayBegin_84 rfl
theorem a_Ru_mayBegin_86 : dk_at b_Ru_mayBegin 86 t_Ru_mayBegin_86 := dk_go 1 a_Ru_mayBegin_85 rfl
theorem a_Ru_mayBegin_89 : dk_at b_Ru_mayBegin 89 t_Ru_mayBegin_89 := dk_go 3 a_Ru_mayBegin_86 rfl
theorem a_Ru_mayBegin_90 : dk_at b_Ru_mayBegin 90 t_Ru_mayBegin_90 := dk_go 1 a_Ru_mayBegin_89 rfl
theorem d_Ru_mayBegin_0 : decode b_Ru_mayBegin 0 = .ok (.aload_n 0, 1) := dk_0 a_Ru_mayBegin_0 (dko_42 _)
theorem d_Ru_mayBegin_1 : decode b_Ru_mayBegin 1 = .ok (.getfield 12, 3) := dk_U2 a_Ru_mayBegin_1 (dko_180 _) rfl
theorem d_Ru_mayBegin_4 : decode b_Ru_mayBegin 4 = .ok (.getfield 122, 3) := dk_U2 a_Ru_mayBegin_4 (dko_180 _) rfl
theorem d_Ru_mayBegin_7 : decode b_Ru_mayBegin 7 = .ok (.aload_n 0, 1) := dk_0 a_Ru_mayBegin_7 (dko_42 _)
theorem d_Ru_mayBegin_8 : decode b_Ru_mayBegin 8 = .ok (.getfield 22, 3) := dk_U2 a_Ru_mayBegin_8 (dko_180 _) rfl
theorem d_Ru_mayBegin_11 : decode b_Ru_mayBegin 11 = .ok (.iload_n 1, 1) := dk_0 a_Ru_mayBegin_11 (dko_27 _)
theorem d_Ru_mayBegin_12 : decode b_Ru_mayBegin 12 = .ok (.iaload, 1) := dk_0 a_Ru_mayBegin_12 (dko_46 _)
theorem d_Ru_mayBegin_13 : decode b_Ru_mayBegin 13 = .ok (.iaload, 1) := dk_0 a_Ru_mayBegin_13 (dko_46 _)
theorem d_Ru_mayBegin_14 : decode b_Ru_mayBegin 14 = .ok (.bipush 26, 2) := dk_S1 a_Ru_mayBegin_14 (dko_16 _) (by decide +kernel)
theorem d_Ru_mayBegin_16 : decode b_Ru_mayBegin 16 = .ok (.if_icmp .ne 7, 3) := dk_S2 a_Ru_mayBegin_16 (dko_160 _) (by decide +kernel)
theorem d_Ru_mayBegin_19 : decode b_Ru_mayBegin 19 = .ok (.iconst 1, 1) := dk_0 a_Ru_mayBegin_19 (dko_4 _)
theorem d_Ru_mayBegin_20 : decode b_Ru_mayBegin 20 = .ok (.goto 4, 3) := dk_S2 a_Ru_mayBegin_20 (dko_167 _) (by decide +kernel)
theorem d_Ru_mayBegin_23 : decode b_Ru_mayBegin 23 = .ok (.iconst 0, 1) := dk_0 a_Ru_mayBegin_23 (dko_3 _)
theorem d_Ru_mayBegin_24 : decode b_Ru_mayBegin 24 = .ok (.istore_n 2, 1) := dk_0 a_Ru_mayBegin_24 (dko_61 _)
theorem d_Ru_mayBegin_25 : decode b_Ru_mayBegin 25 = .ok (.aload_n 0, 1) := dk_0 a_Ru_mayBegin_25 (dko_42 _)
theorem d_Ru_mayBegin_26 : decode b_Ru_mayBegin 26 = .ok (.getfield 93, 3) := dk_U2 a_Ru_mayBegin_26 (dko_180 _) rfl
theorem d_Ru_mayBegin_29 : decode b_Ru_mayBegin 29 = .ok (.sipush 1000, 3) := dk_S2 a_Ru_mayBegin_29 (dko_17 _) (by decide +kernel)
theorem d_Ru_mayBegin_32 : decode b_Ru_mayBegin 32 = .ok (.if_icmp .ge 16, 3) := dk_S2 a_Ru_mayBegin_32 (dko_162 _) (by decide +kernel)
theorem d_Ru_mayBegin_35 : decode b_Ru_mayBegin 35 = .ok (.iload_n 2, 1) := dk_0 a_Ru_mayBegin_35 (dko_28 _)
theorem d_Ru_mayBegin_36 : decode b_Ru_mayBegin 36 = .ok (.ifCond .eq 25, 3) := dk_S2 a_Ru_mayBegin_36 (dko_153 _) (by decide +kernel)
theorem d_Ru_mayBegin_39 : decode b_Ru_mayBegin 39 = .ok (.aload_n 0, 1) := dk_0 a_Ru_mayBegin_39 (dko_42 _)
theorem d_Ru_mayBegin_40 : decode b_Ru_mayBegin 40 = .ok (.getfield 96, 3) := dk_U2 a_Ru_mayBegin_40 (dko_180 _) rfl
theorem d_Ru_mayBegin_43 : decode b_Ru_mayBegin 43 = .ok (.bipush 10, 2) := dk_S1 a_Ru_mayBegin_43 (dko_16 _) (by decide +kernel)
theorem d_Ru_mayBegin_45 : decode b_Ru_mayBegin 45 = .ok (.if_icmp .lt 16, 3) := dk_S2 a_Ru_mayBegin_45 (dko_161 _) (by decide +kernel)
theorem d_Ru_mayBegin_48 : decode b_Ru_mayBegin 48 = .ok (.aload_n 0, 1) := dk_0 a_Ru_mayBegin_48 (dko_42 _)
theorem d_Ru_mayBegin_49 : decode b_Ru_mayBegin 49 = .ok (.iconst 2, 1) := dk_0 a_Ru_mayBegin_49 (dko_5 _)
theorem d_Ru_mayBegin_50 : decode b_Ru_mayBegin 50 = .ok (.aload_n 0, 1) := dk_0 a_Ru_mayBegin_50 (dko_42 _)
theorem d_Ru_mayBegin_51 : decode b_Ru_mayBegin 51 = .ok (.getfield 22, 3) := dk_U2 a_Ru_mayBegin_51 (dko_180 _) rfl
theorem d_Ru_mayBegin_54 : decode b_Ru_mayBegin 54 = .ok (.iload_n 1, 1) := dk_0 a_Ru_mayBegin_54 (dko_27 _)
theorem d_Ru_mayBegin_55 : decode b_Ru_mayBegin 55 = .ok (.iaload, 1) := dk_0 a_Ru_mayBegin_55 (dko_46 _)
theorem d_Ru_mayBegin_56 : decode b_Ru_mayBegin 56 = .ok (.invokevirtual 141, 3) := dk_U2 a_Ru_mayBegin_56 (dko_182 _) rfl
theorem d_Ru_mayBegin_59 : decode b_Ru_mayBegin 59 = .ok (.iconst 0, 1) := dk_0 a_Ru_mayBegin_59 (dko_3 _)
theorem d_Ru_mayBegin_60 : decode b_Ru_mayBegin 60 = .ok (.ireturn, 1) := dk_0 a_Ru_mayBegin_60 (dko_172 _)
theorem d_Ru_mayBegin_61 : decode b_Ru_mayBegin 61 = .ok (.aload_n 0, 1) := dk_0 a_Ru_mayBegin_61 (dko_42 _)
theorem d_Ru_mayBegin_62 : decode b_Ru_mayBegin 62 = .ok (.dup, 1) := dk_0 a_Ru_mayBegin_62 (dko_89 _)
theorem d_Ru_mayBegin_63 : decode b_Ru_mayBegin 63 = .ok (.getfield 93, 3) := dk_U2 a_Ru_mayBegin_63 (dko_180 _) rfl
theorem d_Ru_mayBegin_66 : decode b_Ru_mayBegin 66 = .ok (.iconst 1, 1) := dk_0 a_Ru_mayBegin_66 (dko_4 _)
theorem d_Ru_mayBegin_67 : decode b_Ru_mayBegin 67 = .ok (.iadd, 1) := dk_0 a_Ru_mayBegin_67 (dko_96 _)
theorem d_Ru_mayBegin_68 : decode b_Ru_mayBegin 68 = .ok (.putfield 93, 3) := dk_U2 a_Ru_mayBegin_68 (dko_181 _) rfl
theorem d_Ru_mayBegin_71 : decode b_Ru_mayBegin 71 = .ok (.aload_n 0, 1) := dk_0 a_Ru_mayBegin_71 (dko_42 _)
theorem d_Ru_mayBegin_72 : decode b_Ru_mayBegin 72 = .ok (.dup, 1) := dk_0 a_Ru_mayBegin_72 (dko_89 _)
theorem d_Ru_mayBegin_73 : decode b_Ru_mayBegin 73 = .ok (.getfield 96, 3) := dk_U2 a_Ru_mayBegin_73 (dko_180 _) rfl
theorem d_Ru_mayBegin_76 : decode b_Ru_mayBegin 76 = .ok (.iload_n 2, 1) := dk_0 a_Ru_mayBegin_76 (dko_28 _)
theorem d_Ru_mayBegin_77 : decode b_Ru_mayBegin 77 = .ok (.ifCond .eq 7, 3) := dk_S2 a_Ru_mayBegin_77 (dko_153 _) (by decide +kernel)
theorem d_Ru_mayBegin_80 : decode b_Ru_mayBegin 80 = .ok (.iconst 1, 1) := dk_0 a_Ru_mayBegin_80 (dko_4 _)
theorem d_Ru_mayBegin_81 : decode b_Ru_mayBegin 81 = .ok (.goto 4, 3) := dk_S2 a_Ru_mayBegin_81 (dko_167 _) (by decide +kernel)
theorem d_Ru_mayBegin_84 : decode b_Ru_mayBegin 84 = .ok (.iconst 0, 1) := dk_0 a_Ru_mayBegin_84 (dko_3 _)
theorem d_Ru_mayBegin_85 : decode b_Ru_mayBegin 85 = .ok (.iadd, 1) := dk_0 a_Ru_mayBegin_85 (dko_96 _)
theorem d_Ru_mayBegin_86 : decode b_Ru_mayBegin 86 = .ok (.putfield 96, 3) := dk_U2 a_Ru_mayBegin_86 (dko_181 _) rfl
theorem d_Ru_mayBegin_89 : decode b_Ru_mayBegin 89 = .ok (.iconst 1, 1) := dk_0 a_Ru_mayBegin_89 (dko_4 _)
theorem d_Ru_mayBegin_90 : decode b_Ru_mayBegin 90 = .ok (.ireturn, 1) := dk_0 a_Ru_mayBegin_90 (dko_172 _)
set_option maxHeartbeats 4000000 in
set_option maxRecDepth 100000 in
theorem ok_Ru_mayBegin (pc : Nat) : OpS mt mi_Ru_mayBegin pc (cs_Ru_mayBegin pc) := (os_n (os_n (os_n (os_n (os_n (os_l (so_aload_n d_Ru_mayBegin_0 rfl)) (os_n (os_l (so_get (C := R_Ru) (T := F_Ru) (N := 21) (j := 3) in_Ru rfl (by decide) mw_514 d_Ru_mayBegin_1)) (os_l (so_get (C := R_Pr) (T := F_Pr) (N := 18) (j := 3) in_Pr rfl (by decide) mw_438 d_Ru_mayBegin_4)))) (os_n (os_l (so_aload_n d_Ru_mayBegin_7 rfl)) (os_n (os_l (so_get (C := R_Ru) (T := F_Ru) (N := 21) (j := 6) in_Ru rfl (by decide) mw_519 d_Ru_mayBegin_8)) (os_l (so_iload_n d_Ru_mayBegin_11 rfl))))) (os_n (os_n (os_l (so_iaload d_Ru_mayBegin_12)) (os_n (os_l (so_iaload d_Ru_mayBegin_13)) (os_l (so_bipush d_Ru_mayBegin_14 (by decide))))) (os_n (os_l (so_icne d_Ru_mayBegin_16 (by decide))) (os_n (os_l (so_iconst d_Ru_mayBegin_19 (by decide))) (os_l (so_goto d_Ru_mayBegin_20 (by decide))))))) (os_n (os_n (os_n (os_l (so_iconst d_Ru_mayBegin_23 (by decide))) (os_n (os_l (so_istore_n d_Ru_mayBegin_24 rfl (by decide))) (os_l (so_aload_n d_Ru_mayBegin_25 rfl)))) (os_n (os_l (so_get (C := R_Ru) (T := F_Ru) (N := 21) (j := 19) in_Ru rfl (by decide) mw_532 d_Ru_mayBegin_26)) (os_n (os_l (so_sipush d_Ru_mayBegin_29 (by decide))) (os_l (so_icge d_Ru_mayBegin_32 (by decide)))))) (os_n (os_n (os_l (so_iload_n d_Ru_mayBegin_35 rfl)) (os_n (os_l (so_ifeq d_Ru_mayBegin_36 (by decide))) (os_l (so_aload_n d_Ru_mayBegin_39 rfl)))) (os_n (os_n (os_l (so_get (C := R_Ru) (T := F_Ru) (N := 21) (j := 20) in_Ru rfl (by decide) mw_533 d_Ru_mayBegin_40)) (os_l (so_bipush d_Ru_mayBegin_43 (by decide)))) (os_n (os_l (so_iclt d_Ru_mayBegin_45 (by decide))) (os_l (so_aload_n d_Ru_mayBegin_48 rfl))))))) (os_n (os_n (os_n (os_n (os_l (so_iconst d_Ru_mayBegin_49 (by decide))) (os_n (os_l (so_aload_n d_Ru_mayBegin_50 rfl)) (os_l (so_get (C := R_Ru) (T := F_Ru) (N := 21) (j := 6) in_Ru rfl (by decide) mw_519 d_Ru_mayBegin_51)))) (os_n (os_l (so_iload_n d_Ru_mayBegin_54 rfl)) (os_n (os_l (so_iaload d_Ru_mayBegin_55)) (os_l (so_callV (iv := mi_Ru_fault) rfl rfl rfl mw_1361 mw_1363 sl_68 mw_11 mw_1364 ⟨by decide +kernel, by decide +kernel, by decide +kernel⟩ (by decide) d_Ru_mayBegin_56))))) (os_n (os_n (os_l (so_iconst d_Ru_mayBegin_59 (by decide))) (os_n (os_l (so_zreturn rfl d_Ru_mayBegin_60)) (os_l (so_aload_n d_Ru_mayBegin_61 rfl)))) (os_n (os_n (os_l (so_dup d_Ru_mayBegin_62)) (os_l (so_get (C := R_Ru) (T := F_Ru) (N := 21) (j := 19) in_Ru rfl (by decide) mw_532 d_Ru_mayBegin_63))) (os_n (os_l (so_iconst d_Ru_mayBegin_66 (by decide))) (os_l (so_iadd d_Ru_mayBegin_67)))))) (os_n (os_n (os_n (os_l (so_putI (C := R_Ru) (T := F_Ru) (N := 21) (j := 19) in_Ru t_Ru_ok n_Ru rfl (by decide) mw_532 rfl (by decide +kernel) d_Ru_mayBegin_68)) (os_n (os_l (so_aload_n d_Ru_mayBegin_71 rfl)) (os_l (so_dup d_Ru_mayBegin_72)))) (os_n (os_l (so_get (C := R_Ru) (T := F_Ru) (N := 21) (j := 20) in_Ru rfl (by decide) mw_533 d_Ru_mayBegin_73)) (os_n (os_l (so_iload_n d_Ru_mayBegin_76 rfl)) (os_l (so_ifeq d_Ru_mayBegin_77 (by decide)))))) (os_n (os_n (os_l (so_iconst d_Ru_mayBegin_80 (by decide))) (os_n (os_l (so_goto d_Ru_mayBegin_81 (by decide))) (os_l (so_iconst d_Ru_mayBegin_84 (by decide))))) (os_n (os_n (os_l (so_iadd d_Ru_mayBegin_85)) (os_l (so_putI (C := R_Ru) (T := F_Ru) (N := 21) (j := 20) in_Ru t_Ru_ok n_Ru rfl (by decide) mw_533 rfl (by decide +kernel) d_Ru_mayBegin_86))) (os_n (os_l (so_iconst d_Ru_mayBegin_89 (by decide))) (os_l (so_zreturn rfl d_Ru_mayBegin_90))))))))
abbrev t_Ru_goOn_102 : List UInt8 := 172 :: []
abbrev t_Ru_goOn_101 : List UInt8 := 3 :: t_Ru_goOn_102
abbrev t_Ru_goOn_98 : List UInt8 := 167 :: 0 :: 4 :: t_Ru_goOn_101
abbrev t_Ru_goOn_97 : List UInt8 := 4 :: t_Ru_goOn_98
abbrev t_Ru_goOn_94 : List UInt8 := 156 :: 0 :: 7 :: t_Ru_goOn_97
abbrev t_Ru_goOn_93 : List UInt8 := 46 :: t_Ru_goOn_94
abbrev t_Ru_goOn_92 : List UInt8 := 27 :: t_Ru_goOn_93
abbrev t_Ru_goOn_89 : List UInt8 := 180 :: 0 :: 35 :: t_Ru_goOn_92
abbrev t_Ru_goOn_88 : List UInt8 := 42 :: t_Ru_goOn_89
abbrev t_Ru_goOn_85 : List UInt8 := 167 :: 255 :: 205 :: t_Ru_goOn_88
abbrev t_Ru_goOn_82 : List UInt8 := 132 :: 3 :: 1 :: t_Ru_goOn_85
abbrev t_Ru_goOn_79 : List UInt8 := 182 :: 0 :: 138 :: t_Ru_goOn_82
abbrev t_Ru_goOn_78 : List UInt8 := 46 :: t_Ru_goOn_79
abbrev t_Ru_goOn_76 : List UInt8 := 21 :: 4 :: t_Ru_goOn_78
abbrev t_Ru_goOn_73 : List UInt8 := 180 :: 0 :: 29 :: t_Ru_goOn_76
abbrev t_Ru_goOn_72 : List UInt8 := 42 :: t_Ru_goOn_73
abbrev t_Ru_goOn_71 : List UInt8 := 27 :: t_Ru_goOn_72
abbrev t_Ru_goOn_70 : List UInt8 := 42 :: t_Ru_goOn_71
abbrev t_Ru_goOn_69 : List UInt8 := 172 :: t_Ru_goOn_70
abbrev t_Ru_goOn_68 : List UInt8 := 3 :: t_Ru_goOn_69
abbrev t_Ru_goOn_65 : List UInt8 := 154 :: 0 :: 5 :: t_Ru_goOn_68
abbrev t_Ru_goOn_62 : List UInt8 := 182 :: 0 :: 148 :: t_Ru_goOn_65
abbrev t_Ru_goOn_61 : List UInt8 := 28 :: t_Ru_goOn_62
abbrev t_Ru_goOn_59 : List UInt8 := 21 :: 4 :: t_Ru_goOn_61
abbrev t_Ru_goOn_58 : List UInt8 := 42 :: t_Ru_goOn_59
abbrev t_Ru_goOn_56 : List UInt8 := 54 :: 4 :: t_Ru_goOn_58
abbrev t_Ru_goOn_55 : List UInt8 := 46 :: t_Ru_goOn_56
abbrev t_Ru_goOn_54 : List UInt8 := 27 :: t_Ru_goOn_55
abbrev t_Ru_goOn_51 : List UInt8 := 180 :: 0 :: 35 :: t_Ru_goOn_54
abbrev t_Ru_goOn_50 : List UInt8 := 42 :: t_Ru_goOn_51
abbrev t_Ru_goOn_47 : List UInt8 := 155 :: 0 :: 41 :: t_Ru_goOn_50
abbrev t_Ru_goOn_46 : List UInt8 := 46 :: t_Ru_goOn_47
abbrev t_Ru_goOn_45 : List UInt8 := 27 :: t_Ru_goOn_46
abbrev t_Ru_goOn_42 : List UInt8 := 180 :: 0 :: 35 :: t_Ru_goOn_45
abbrev t_Ru_goOn_41 : List UInt8 := 42 :: t_Ru_goOn_42
abbrev t_Ru_goOn_38 : List UInt8 := 163 :: 0 :: 50 :: t_Ru_goOn_41
abbrev t_Ru_goOn_35 : List UInt8 := 17 :: 1 :: 244 :: t_Ru_goOn_38
abbrev t_Ru_goOn_34 : List UInt8 := 29 :: t_Ru_goOn_35
abbrev t_Ru_goOn_33 : List UInt8 := 62 :: t_Ru_goOn_34
abbrev t_Ru_goOn_32 : List UInt8 := 3 :: t_Ru_goOn_33
abbrev t_Ru_goOn_29 : List UInt8 := 182 :: 0 :: 81 :: t_Ru_goOn_32
abbrev t_Ru_goOn_28 : List UInt8 := 27 :: t_Ru_goOn_29
abbrev t_Ru_goOn_27 : List UInt8 := 42 :: t_Ru_goOn_28
abbrev t_Ru_goOn_26 : List UInt8 := 172 :: t_Ru_goOn_27
abbrev t_Ru_goOn_25 : List UInt8 := 3 :: t_Ru_goOn_26
abbrev t_Ru_goOn_22 : List UInt8 := 154 :: 0 :: 5 :: t_Ru_goOn_25
abbrev t_Ru_goOn_19 : List UInt8 := 182 :: 0 :: 144 :: t_Ru_goOn_22
abbrev t_Ru_goOn_18 : List UInt8 := 27 :: t_Ru_goOn_19
abbrev t_Ru_goOn_17 : List UInt8 := 42 :: t_Ru_goOn_18
abbrev t_Ru_goOn_14 : List UInt8 := 154 :: 0 :: 18 :: t_Ru_goOn_17
abbrev t_Ru_goOn_13 : List UInt8 := 46 :: t_Ru_goOn_14
abbrev t_Ru_goOn_12 : List UInt8 := 27 :: t_Ru_goOn_13
abbrev t_Ru_goOn_9 : List UInt8 := 180 :: 0 :: 32 :: t_Ru_goOn_12
abbrev t_Ru_goOn_8 : List UInt8 := 42 :: t_Ru_goOn_9
abbrev t_Ru_goOn_7 : List UInt8 := 172 :: t_Ru_goOn_8
abbrev t_Ru_goOn_6 : List UInt8 := 3 :: t_Ru_goOn_7
abbrev t_Ru_goOn_3 : List UInt8 := 161 :: 0 :: 5 :: t_Ru_goOn_6
abbrev t_Ru_goOn_1 : List UInt8 := 16 :: 100 :: t_Ru_goOn_3
abbrev t_Ru_goOn_0 : List UInt8 := 28 :: t_Ru_goOn_1
theorem a_Ru_goOn_0 : dk_at b_Ru_goOn 0 t_Ru_goOn_0 := dk_start (by decide +kernel)
theorem a_Ru_goOn_1 : dk_at b_Ru_goOn 1 t_Ru_goOn_1 := dk_go 1 a_Ru_goOn_0 rfl
theorem a_Ru_goOn_3 : dk_at b_Ru_goOn 3 t_Ru_goOn_3 := dk_go 2 a_Ru_goOn_1 rfl
theorem a_Ru_goOn_6 : dk_at b_Ru_goOn 6 t_Ru_goOn_6 := dk_go 3 a_Ru_goOn_3 rfl
theorem a_Ru_goOn_7 : dk_at b_Ru_goOn 7 t_Ru_goOn_7 := dk_go 1 a_Ru_goOn_6 rfl
theorem a_Ru_goOn_8 : dk_at b_Ru_goOn 8 t_Ru_goOn_8 := dk_go 1 a_Ru_goOn_7 rfl
theorem a_Ru_goOn_9 : dk_at b_Ru_goOn 9 t_Ru_goOn_9 := dk_go 1 a_Ru_goOn_8 rfl
theorem a_Ru_goOn_12 : dk_at b_Ru_goOn 12 t_Ru_goOn_12 := dk_go 3 a_Ru_goOn_9 rfl
theorem a_Ru_goOn_13 : dk_at b_Ru_goOn 13 t_Ru_goOn_13 := dk_go 1 a_Ru_goOn_12 rfl
theorem a_Ru_goOn_14 : dk_at b_Ru_goOn 14 t_Ru_goOn_14 := dk_go 1 a_Ru_goOn_13 rfl
theorem a_Ru_goOn_17 : dk_at b_Ru_goOn 17 t_Ru_goOn_17 := dk_go 3 a_Ru_goOn_14 rfl
theorem a_Ru_goOn_18 : dk_at b_Ru_goOn 18 t_Ru_goOn_18 := dk_go 1 a_Ru_goOn_17 rfl
theorem a_Ru_goOn_19 : dk_at b_Ru_goOn 19 t_Ru_goOn_19 := dk_go 1 a_Ru_goOn_18 rfl
theorem a_Ru_goOn_22 : dk_at b_Ru_goOn 22 t_Ru_goOn_22 := dk_go 3 a_Ru_goOn_19 rfl
theorem a_Ru_goOn_25 : dk_at b_Ru_goOn 25 t_Ru_goOn_25 := dk_go 3 a_Ru_goOn_22 rfl
theorem a_Ru_goOn_26 : dk_at b_Ru_goOn 26 t_Ru_goOn_26 := dk_go 1 a_Ru_goOn_25 rfl
theorem a_Ru_goOn_27 : dk_at b_Ru_goOn 27 t_Ru_goOn_27 := dk_go 1 a_Ru_goOn_26 rfl
theorem a_Ru_goOn_28 : dk_at b_Ru_goOn 28 t_Ru_goOn_28 := dk_go 1 a_Ru_goOn_27 rfl
theorem a_Ru_goOn_29 : dk_at b_Ru_goOn 29 t_Ru_goOn_29 := dk_go 1 a_Ru_goOn_28 rfl
theorem a_Ru_goOn_32 : dk_at b_Ru_goOn 32 t_Ru_goOn_32 := dk_go 3 a_Ru_goOn_29 rfl
theorem a_Ru_goOn_33 : dk_at b_Ru_goOn 33 t_Ru_goOn_33 := dk_go 1 a_Ru_goOn_32 rfl
theorem a_Ru_goOn_34 : dk_at b_Ru_goOn 34 t_Ru_goOn_34 := dk_go 1 a_Ru_goOn_33 rfl
theorem a_Ru_goOn_35 : dk_at b_Ru_goOn 35 t_Ru_goOn_35 := dk_go 1 a_Ru_goOn_34 rfl
theorem a_Ru_goOn_38 : dk_at b_Ru_goOn 38 t_Ru_goOn_38 := dk_go 3 a_Ru_goOn_35 rfl
theorem a_Ru_goOn_41 : dk_at b_Ru_goOn 41 t_Ru_goOn_41 := dk_go 3 a_Ru_goOn_38 rfl
theorem a_Ru_goOn_42 : dk_at b_Ru_goOn 42 t_Ru_goOn_42 := dk_go 1 a_Ru_goOn_41 rfl
theorem a_Ru_goOn_45 : dk_at b_Ru_goOn 45 t_Ru_goOn_45 := dk_go 3 a_Ru_goOn_42 rfl
theorem a_Ru_goOn_46 : dk_at b_Ru_goOn 46 t_Ru_goOn_46 := dk_go 1 a_Ru_goOn_45 rfl
theorem a_Ru_goOn_47 : dk_at b_Ru_goOn 47 t_Ru_goOn_47 := dk_go 1 a_Ru_goOn_46 rfl
theorem a_Ru_goOn_50 : dk_at b_Ru_goOn 50 t_Ru_goOn_50 := dk_go 3 a_Ru_goOn_47 rfl
theorem a_Ru_goOn_51 : dk_at b_Ru_goOn 51 t_Ru_goOn_51 := dk_go 1 a_Ru_goOn_50 rfl
theorem a_Ru_goOn_54 : dk_at b_Ru_goOn 54 t_Ru_goOn_54 := dk_go 3 a_Ru_goOn_51 rfl
theorem a_Ru_goOn_55 : dk_at b_Ru_goOn 55 t_Ru_goOn_55 := dk_go 1 a_Ru_goOn_54 rfl
theorem a_Ru_goOn_56 : dk_at b_Ru_goOn 56 t_Ru_goOn_56 := dk_go 1 a_Ru_goOn_55 rfl
theorem a_Ru_goOn_58 : dk_at b_Ru_goOn 58 t_Ru_goOn_58 := dk_go 2 a_Ru_goOn_56 rfl
theorem a_Ru_goOn_59 : dk_at b_Ru_goOn 59 t_Ru_goOn_59 := dk_go 1 a_Ru_goOn_58 rfl
theorem a_Ru_goOn_61 : dk_at b_Ru_goOn 61 t_Ru_goOn_61 := dk_go 2 a_Ru_goOn_59 rfl
theorem a_Ru_goOn_62 : dk_at b_Ru_goOn 62 t_Ru_goOn_62 := dk_go 1 a_Ru_goOn_61 rfl
theorem a_Ru_goOn_65 : dk_at b_Ru_goOn 65 t_Ru_goOn_65 := dk_go 3 a_Ru_goOn_62 rfl
theorem a_Ru_goOn_68 : dk_at b_Ru_goOn 68 t_Ru_goOn_68 := dk_go 3 a_Ru_goOn_65 rfl
theorem a_Ru_goOn_69 : dk_at b_Ru_goOn 69 t_Ru_goOn_69 := dk_go 1 a_Ru_goOn_68 rfl
theorem a_Ru_goOn_70 : dk_at b_Ru_goOn 70 t_Ru_goOn_70 := dk_go 1 a_Ru_goOn_69 rfl
theorem a_Ru_goOn_71 : dk_at b_Ru_goOn 71 t_Ru_goOn_71 := dk_go 1 a_Ru_goOn_70 rfl
theorem a_Ru_goOn_72 : dk_at b_Ru_goOn 72 t_Ru_goOn_72 := dk_go 1 a_Ru_goOn_71 rfl
theorem a_Ru_goOn_73 : dk_at b_Ru_goOn 73 t_Ru_goOn_73 := dk_go 1 a_Ru_goOn_72 rfl
theorem a_Ru_goOn_76 : dk_at b_Ru_goOn 76 t_Ru_goOn_76 := dk_go 3 a_Ru_goOn_73 rfl
theorem a_Ru_goOn_78 : dk_at b_Ru_goOn 78 t_Ru_goOn_78 := dk_go 2 a_Ru_goOn_76 rfl
theorem a_Ru_goOn_79 : dk_at b_Ru_goOn 79 t_Ru_goOn_79 := dk_go 1 a_Ru_goOn_78 rfl
theorem a_Ru_goOn_82 : dk_at b_Ru_goOn 82 t_Ru_goOn_82 := dk_go 3 a_Ru_goOn_79 rfl
theorem a_Ru_goOn_85 : dk_at b_Ru_goOn 85 t_Ru_goOn_85 := dk_go 3 a_Ru_goOn_82 rfl
theorem a_Ru_goOn_88 : dk_at b_Ru_goOn 88 t_Ru_goOn_88 := dk_go 3 a_Ru_goOn_85 rfl
theorem a_Ru_goOn_89 : dk_at b_Ru_goOn 89 t_Ru_goOn_89 := dk_go 1 a_Ru_goOn_88 rfl
theorem a_Ru_goOn_92 : dk_at b_Ru_goOn 92 t_Ru_goOn_92 := dk_go 3 a_Ru_goOn_89 rfl
theorem a_Ru_goOn_93 : dk_at b_Ru_goOn 93 t_Ru_goOn_93 := dk_go 1 a_Ru_goOn_92 rfl
theorem a_Ru_goOn_94 : dk_at b_Ru_goOn 94 t_Ru_goOn_94 := dk_go 1 a_Ru_goOn_93 rfl
theorem a_Ru_goOn_97 : dk_at b_Ru_goOn 97 t_Ru_goOn_97 := dk_go 3 a_Ru_goOn_94 rfl
theorem a_Ru_goOn_98 : dk_at b_Ru_goOn 98 t_Ru_goOn_98 := dk_go 1 a_Ru_goOn_97 rfl
theorem a_Ru_goOn_101 : dk_at b_Ru_goOn 101 t_Ru_goOn_101 := dk_go 3 a_Ru_goOn_98 rfl
theorem a_Ru_goOn_102 : dk_at b_Ru_goOn 102 t_Ru_goOn_102 := dk_go 1 a_Ru_goOn_101 rfl
theorem d_Ru_goOn_0 : decode b_Ru_goOn 0 = .ok (.iload_n 2, 1) := dk_0 a_Ru_goOn_0 (dko_28 _)
theorem d_Ru_goOn_1 : decode b_Ru_goOn 1 = .ok (.bipush 100, 2) := dk_S1 a_Ru_goOn_1 (dko_16 _) (by decide +kernel)
theorem d_Ru_goOn_3 : decode b_Ru_goOn 3 = .ok (.if_icmp .lt 5, 3) := dk_S2 a_Ru_goOn_3 (dko_161 _) (by decide +kernel)
theorem d_Ru_goOn_6 : decode b_Ru_goOn 6 = .ok (.iconst 0, 1) := dk_0 a_Ru_goOn_6 (dko_3 _)
theorem d_Ru_goOn_7 : decode b_Ru_goOn 7 = .ok (.ireturn, 1) := dk_0 a_Ru_goOn_7 (dko_172 _)
theorem d_Ru_goOn_8 : decode b_Ru_goOn 8 = .ok (.aload_n 0, 1) := dk_0 a_Ru_goOn_8 (dko_42 _)
theorem d_Ru_goOn_9 : decode b_Ru_goOn 9 = .ok (.getfield 32, 3) := dk_U2 a_Ru_goOn_9 (dko_180 _) rfl
theorem d_Ru_goOn_12 : decode b_Ru_goOn 12 = .ok (.iload_n 1, 1) := dk_0 a_Ru_goOn_12 (dko_27 _)
theorem d_Ru_goOn_13 : decode b_Ru_goOn 13 = .ok (.iaload, 1) := dk_0 a_Ru_goOn_13 (dko_46 _)
theorem d_Ru_goOn_14 : decode b_Ru_goOn 14 = .ok (.ifCond .ne 18, 3) := dk_S2 a_Ru_goOn_14 (dko_154 _) (by decide +kernel)
theorem d_Ru_goOn_17 : decode b_Ru_goOn 17 = .ok (.aload_n 0, 1) := dk_0 a_Ru_goOn_17 (dko_42 _)
theorem d_Ru_goOn_18 : decode b_Ru_goOn 18 = .ok (.iload_n 1, 1) := dk_0 a_Ru_goOn_18 (dko_27 _)
theorem d_Ru_goOn_19 : decode b_Ru_goOn 19 = .ok (.invokevirtual 144, 3) := dk_U2 a_Ru_goOn_19 (dko_182 _) rfl
theorem d_Ru_goOn_22 : decode b_Ru_goOn 22 = .ok (.ifCond .ne 5, 3) := dk_S2 a_Ru_goOn_22 (dko_154 _) (by decide +kernel)
theorem d_Ru_goOn_25 : decode b_Ru_goOn 25 = .ok (.iconst 0, 1) := dk_0 a_Ru_goOn_25 (dko_3 _)
theorem d_Ru_goOn_26 : decode b_Ru_goOn 26 = .ok (.ireturn, 1) := dk_0 a_Ru_goOn_26 (dko_172 _)
theorem d_Ru_goOn_27 : decode b_Ru_goOn 27 = .ok (.aload_n 0, 1) := dk_0 a_Ru_goOn_27 (dko_42 _)
theorem d_Ru_goOn_28 : decode b_Ru_goOn 28 = .ok (.iload_n 1, 1) := dk_0 a_Ru_goOn_28 (dko_27 _)
theorem d_Ru_goOn_29 : decode b_Ru_goOn 29 = .ok (.invokevirtual 81, 3) := dk_U2 a_Ru_goOn_29 (dko_182 _) rfl
theorem d_Ru_goOn_32 : decode b_Ru_goOn 32 = .ok (.iconst 0, 1) := dk_0 a_Ru_goOn_32 (dko_3 _)
theorem d_Ru_goOn_33 : decode b_Ru_goOn 33 = .ok (.istore_n 3, 1) := dk_0 a_Ru_goOn_33 (dko_62 _)
theorem d_Ru_goOn_34 : decode b_Ru_goOn 34 = .ok (.iload_n 3, 1) := dk_0 a_Ru_goOn_34 (dko_29 _)
theorem d_Ru_goOn_35 : decode b_Ru_goOn 35 = .ok (.sipush 500, 3) := dk_S2 a_Ru_goOn_35 (dko_17 _) (by decide +kernel)
theorem d_Ru_goOn_38 : decode b_Ru_goOn 38 = .ok (.if_icmp .gt 50, 3) := dk_S2 a_Ru_goOn_38 (dko_163 _) (by decide +kernel)
theorem d_Ru_goOn_41 : decode b_Ru_goOn 41 = .ok (.aload_n 0, 1) := dk_0 a_Ru_goOn_41 (dko_42 _)
theorem d_Ru_goOn_42 : decode b_Ru_goOn 42 = .ok (.getfield 35, 3) := dk_U2 a_Ru_goOn_42 (dko_180 _) rfl
theorem d_Ru_goOn_45 : decode b_Ru_goOn 45 = .ok (.iload_n 1, 1) := dk_0 a_Ru_goOn_45 (dko_27 _)
theorem d_Ru_goOn_46 : decode b_Ru_goOn 46 = .ok (.iaload, 1) := dk_0 a_Ru_goOn_46 (dko_46 _)
theorem d_Ru_goOn_47 : decode b_Ru_goOn 47 = .ok (.ifCond .lt 41, 3) := dk_S2 a_Ru_goOn_47 (dko_155 _) (by decide +kernel)
theorem d_Ru_goOn_50 : decode b_Ru_goOn 50 = .ok (.aload_n 0, 1) := dk_0 a_Ru_goOn_50 (dko_42 _)
theorem d_Ru_goOn_51 : decode b_Ru_goOn 51 = .ok (.getfield 35, 3) := dk_U2 a_Ru_goOn_51 (dko_180 _) rfl
theorem d_Ru_goOn_54 : decode b_Ru_goOn 54 = .ok (.iload_n 1, 1) := dk_0 a_Ru_goOn_54 (dko_27 _)
theorem d_Ru_goOn_55 : decode b_Ru_goOn 55 = .ok (.iaload, 1) := dk_0 a_Ru_goOn_55 (dko_46 _)
theorem d_Ru_goOn_56 : decode b_Ru_goOn 56 = .ok (.istore 4, 2) := dk_U1 a_Ru_goOn_56 (dko_54 _) rfl
theorem d_Ru_goOn_58 : decode b_Ru_goOn 58 = .ok (.aload_n 0, 1) := dk_0 a_Ru_goOn_58 (dko_42 _)
theorem d_Ru_goOn_59 : decode b_Ru_goOn 59 = .ok (.iload 4, 2) := dk_U1 a_Ru_goOn_59 (dko_21 _) rfl
theorem d_Ru_goOn_61 : decode b_Ru_goOn 61 = .ok (.iload_n 2, 1) := dk_0 a_Ru_goOn_61 (dko_28 _)
theorem d_Ru_goOn_62 : decode b_Ru_goOn 62 = .ok (.invokevirtual 148, 3) := dk_U2 a_Ru_goOn_62 (dko_182 _) rfl
theorem d_Ru_goOn_65 : decode b_Ru_goOn 65 = .ok (.ifCond .ne 5, 3) := dk_S2 a_Ru_goOn_65 (dko_154 _) (by decide +kernel)
theorem d_Ru_goOn_68 : decode b_Ru_goOn 68 = .ok (.iconst 0, 1) := dk_0 a_Ru_goOn_68 (dko_3 _)
theorem d_Ru_goOn_69 : decode b_Ru_goOn 69 = .ok (.ireturn, 1) := dk_0 a_Ru_goOn_69 (dko_172 _)
theorem d_Ru_goOn_70 : decode b_Ru_goOn 70 = .ok (.aload_n 0, 1) := dk_0 a_Ru_goOn_70 (dko_42 _)
theorem d_Ru_goOn_71 : decode b_Ru_goOn 71 = .ok (.iload_n 1, 1) := dk_0 a_Ru_goOn_71 (dko_27 _)
theorem d_Ru_goOn_72 : decode b_Ru_goOn 72 = .ok (.aload_n 0, 1) := dk_0 a_Ru_goOn_72 (dko_42 _)
theorem d_Ru_goOn_73 : decode b_Ru_goOn 73 = .ok (.getfield 29, 3) := dk_U2 a_Ru_goOn_73 (dko_180 _) rfl
theorem d_Ru_goOn_76 : decode b_Ru_goOn 76 = .ok (.iload 4, 2) := dk_U1 a_Ru_goOn_76 (dko_21 _) rfl
theorem d_Ru_goOn_78 : decode b_Ru_goOn 78 = .ok (.iaload, 1) := dk_0 a_Ru_goOn_78 (dko_46 _)
theorem d_Ru_goOn_79 : decode b_Ru_goOn 79 = .ok (.invokevirtual 138, 3) := dk_U2 a_Ru_goOn_79 (dko_182 _) rfl
theorem d_Ru_goOn_82 : decode b_Ru_goOn 82 = .ok (.iinc 3 1, 3) := dk_US a_Ru_goOn_82 (dko_132 _) (by decide +kernel)
theorem d_Ru_goOn_85 : decode b_Ru_goOn 85 = .ok (.goto (-51), 3) := dk_S2 a_Ru_goOn_85 (dko_167 _) (by decide +kernel)
theorem d_Ru_goOn_88 : decode b_Ru_goOn 88 = .ok (.aload_n 0, 1) := dk_0 a_Ru_goOn_88 (dko_42 _)
theorem d_Ru_goOn_89 : decode b_Ru_goOn 89 = .ok (.getfield 35, 3) := dk_U2 a_Ru_goOn_89 (dko_180 _) rfl
theorem d_Ru_goOn_92 : decode b_Ru_goOn 92 = .ok (.iload_n 1, 1) := dk_0 a_Ru_goOn_92 (dko_27 _)
theorem d_Ru_goOn_93 : decode b_Ru_goOn 93 = .ok (.iaload, 1) := dk_0 a_Ru_goOn_93 (dko_46 _)
theorem d_Ru_goOn_94 : decode b_Ru_goOn 94 = .ok (.ifCond .ge 7, 3) := dk_S2 a_Ru_goOn_94 (dko_156 _) (by decide +kernel)
theorem d_Ru_goOn_97 : decode b_Ru_goOn 97 = .ok (.iconst 1, 1) := dk_0 a_Ru_goOn_97 (dko_4 _)
theorem d_Ru_goOn_98 : decode b_Ru_goOn 98 = .ok (.goto 4, 3) := dk_S2 a_Ru_goOn_98 (dko_167 _) (by decide +kernel)
theorem d_Ru_goOn_101 : decode b_Ru_goOn 101 = .ok (.iconst 0, 1) := dk_0 a_Ru_goOn_101 (dko_3 _)
theorem d_Ru_goOn_102 : decode b_Ru_goOn 102 = .ok (.ireturn, 1) := dk_0 a_Ru_goOn_102 (dko_172 _)
set_option maxHeartbeats 4000000 in
set_option maxRecDepth 100000 in
theorem ok_Ru_goOn (pc : Nat) : OpS mt mi_Ru_goOn pc (cs_Ru_goOn pc) := (os_n (os_n (os_n (os_n (os_n (os_l (so_iload_n d_Ru_goOn_0 rfl)) (os_n (os_l (so_bipush d_Ru_goOn_1 (by decide))) (os_l (so_iclt d_Ru_goOn_3 (by decide))))) (os_n (os_n (os_l (so_iconst d_Ru_goOn_6 (by decide))) (os_l (so_zreturn rfl d_Ru_goOn_7))) (os_n (os_l (so_aload_n d_Ru_goOn_8 rfl)) (os_l (so_get (C := R_Ru) (T := F_Ru) (N := 21) (j := 9) in_Ru rfl (by decide) mw_522 d_Ru_goOn_9))))) (os_n (os_n (os_l (so_iload_n d_Ru_goOn_12 rfl)) (os_n (os_l (so_iaload d_Ru_goOn_13)) (os_l (so_ifne d_Ru_goOn_14 (by decide))))) (os_n (os_n (os_l (so_aload_n d_Ru_goOn_17 rfl)) (os_l (so_iload_n d_Ru_goOn_18 rfl))) (os_n (os_l (so_callV (iv := mi_Ru_mayBegin) rfl rfl rfl mw_1378 mw_1380 sl_71 mw_11 mw_1381 ⟨by decide +kernel, by decide +kernel, by decide +kernel⟩ (by decide) d_Ru_goOn_19)) (os_l (so_ifne d_Ru_goOn_22 (by decide))))))) (os_n (os_n (os_n (os_l (so_iconst d_Ru_goOn_25 (by decide))) (os_n (os_l (so_zreturn rfl d_Ru_goOn_26)) (os_l (so_aload_n d_Ru_goOn_27 rfl)))) (os_n (os_n (os_l (so_iload_n d_Ru_goOn_28 rfl)) (os_l (so_callV (iv := mi_Ru_enter) rfl rfl rfl mw_1314 mw_1316 sl_61 mw_11 mw_1317 ⟨by decide +kernel, by decide +kernel, by decide +kernel⟩ (by decide) d_Ru_goOn_29))) (os_n (os_l (so_iconst d_Ru_goOn_32 (by decide))) (os_l (so_istore_n d_Ru_goOn_33 rfl (by decide)))))) (os_n (os_n (os_n (os_l (so_iload_n d_Ru_goOn_34 rfl)) (os_l (so_sipush d_Ru_goOn_35 (by decide)))) (os_n (os_l (so_icgt d_Ru_goOn_38 (by decide))) (os_l (so_aload_n d_Ru_goOn_41 rfl)))) (os_n (os_n (os_l (so_get (C := R_Ru) (T := F_Ru) (N := 21) (j := 10) in_Ru rfl (by decide) mw_523 d_Ru_goOn_42)) (os_l (so_iload_n d_Ru_goOn_45 rfl))) (os_n (os_l (so_iaload d_Ru_goOn_46)) (os_l (so_iflt d_Ru_goOn_47 (by decide)))))))) (os_n (os_n (os_n (os_n (os_l (so_aload_n d_Ru_goOn_50 rfl)) (os_n (os_l (so_get (C := R_Ru) (T := F_Ru) (N := 21) (j := 10) in_Ru rfl (by decide) mw_523 d_Ru_goOn_51)) (os_l (so_iload_n d_Ru_goOn_54 rfl)))) (os_n (os_n (os_l (so_iaload d_Ru_goOn_55)) (os_l (so_istore d_Ru_goOn_56 (by decide)))) (os_n (os_l (so_aload_n d_Ru_goOn_58 rfl)) (os_l (so_iload d_Ru_goOn_59))))) (os_n (os_n (os_n (os_l (so_iload_n d_Ru_goOn_61 rfl)) (os_l (so_callV (iv := mi_Ru_goesPast) rfl rfl rfl mw_1382 mw_1384 sl_72 mw_11 mw_1385 ⟨by decide +kernel, by decide +kernel, by decide +kernel⟩ (by decide) d_Ru_goOn_62))) (os_n (os_l (so_ifne d_Ru_goOn_65 (by decide))) (os_l (so_iconst d_Ru_goOn_68 (by decide))))) (os_n (os_n (os_l (so_zreturn rfl d_Ru_goOn_69)) (os_l (so_aload_n d_Ru_goOn_70 rfl))) (os_n (os_l (so_iload_n d_Ru_goOn_71 rfl)) (os_l (so_aload_n d_Ru_goOn_72 rfl)))))) (os_n (os_n (os_n (os_l (so_get (C := R_Ru) (T := F_Ru) (N := 21) (j := 8) in_Ru rfl (by decide) mw_521 d_Ru_goOn_73)) (os_n (os_l (so_iload d_Ru_goOn_76)) (os_l (so_iaload d_Ru_goOn_78)))) (os_n (os_n (os_l (so_callV (iv := mi_Ru_choose) rfl rfl rfl mw_1370 mw_1372 sl_69 mw_11 mw_1373 ⟨by decide +kernel, by decide +kernel, by decide +kernel⟩ (by decide) d_Ru_goOn_79)) (os_l (so_iinc d_Ru_goOn_82 (by decide) (by decide)))) (os_n (os_l (so_goto d_Ru_goOn_85 (by decide))) (os_l (so_aload_n d_Ru_goOn_88 rfl))))) (os_n (os_n (os_n (os_l (so_get (C := R_Ru) (T := F_Ru) (N := 21) (j := 10) in_Ru rfl (by decide) mw_523 d_Ru_goOn_89)) (os_l (so_iload_n d_Ru_goOn_92 rfl))) (os_n (os_l (so_iaload d_Ru_goOn_93)) (os_l (so_ifge d_Ru_goOn_94 (by decide))))) (os_n (os_n (os_l (so_iconst d_Ru_goOn_97 (by decide))) (os_l (so_goto d_Ru_goOn_98 (by decide)))) (os_n (os_l (so_iconst d_Ru_goOn_101 (by decide))) (os_l (so_zreturn rfl d_Ru_goOn_102))))))))
abbrev t_Ru_goesPast_168 : List UInt8 := 172 :: []
abbrev t_Ru_goesPast_167 : List UInt8 := 3 :: t_Ru_goesPast_168
abbrev t_Ru_goesPast_164 : List UInt8 := 167 :: 0 :: 4 :: t_Ru_goesPast_167
abbrev t_Ru_goesPast_163 : List UInt8 := 4 :: t_Ru_goesPast_164
abbrev t_Ru_goesPast_160 : List UInt8 := 153 :: 0 :: 7 :: t_Ru_goesPast_163
abbrev t_Ru_goesPast_157 : List UInt8 := 182 :: 0 :: 107 :: t_Ru_goesPast_160
abbrev t_Ru_goesPast_156 : List UInt8 := 96 :: t_Ru_goesPast_157
abbrev t_Ru_goesPast_155 : List UInt8 := 4 :: t_Ru_goesPast_156
abbrev t_Ru_goesPast_154 : List UInt8 := 28 :: t_Ru_goesPast_155
abbrev t_Ru_goesPast_153 : List UInt8 := 46 :: t_Ru_goesPast_154
abbrev t_Ru_goesPast_152 : List UInt8 := 27 :: t_Ru_goesPast_153
abbrev t_Ru_goesPast_149 : List UInt8 := 180 :: 0 :: 35 :: t_Ru_goesPast_152
abbrev t_Ru_goesPast_148 : List UInt8 := 42 :: t_Ru_goesPast_149
abbrev t_Ru_goesPast_147 : List UInt8 := 42 :: t_Ru_goesPast_148
abbrev t_Ru_goesPast_144 : List UInt8 := 155 :: 0 :: 19 :: t_Ru_goesPast_147
abbrev t_Ru_goesPast_143 : List UInt8 := 46 :: t_Ru_goesPast_144
abbrev t_Ru_goesPast_142 : List UInt8 := 27 :: t_Ru_goesPast_143
abbrev t_Ru_goesPast_139 : List UInt8 := 180 :: 0 :: 35 :: t_Ru_goesPast_142
abbrev t_Ru_goesPast_138 : List UInt8 := 42 :: t_Ru_goesPast_139
abbrev t_Ru_goesPast_137 : List UInt8 := 172 :: t_Ru_goesPast_138
abbrev t_Ru_goesPast_134 : List UInt8 := 182 :: 0 :: 163 :: t_Ru_goesPast_137
abbrev t_Ru_goesPast_133 : List UInt8 := 28 :: t_Ru_goesPast_134
abbrev t_Ru_goesPast_132 : List UInt8 := 27 :: t_Ru_goesPast_133
abbrev t_Ru_goesPast_131 : List UInt8 := 42 :: t_Ru_goesPast_132
abbrev t_Ru_goesPast_128 : List UInt8 := 160 :: 0 :: 10 :: t_Ru_goesPast_131
abbrev t_Ru_goesPast_126 : List UInt8 := 16 :: 19 :: t_Ru_goesPast_128
abbrev t_Ru_goesPast_125 : List UInt8 := 29 :: t_Ru_goesPast_126
abbrev t_Ru_goesPast_124 : List UInt8 := 172 :: t_Ru_goesPast_125
abbrev t_Ru_goesPast_121 : List UInt8 := 182 :: 0 :: 160 :: t_Ru_goesPast_124
abbrev t_Ru_goesPast_120 : List UInt8 := 28 :: t_Ru_goesPast_121
abbrev t_Ru_goesPast_119 : List UInt8 := 27 :: t_Ru_goesPast_120
abbrev t_Ru_goesPast_118 : List UInt8 := 42 :: t_Ru_goesPast_119
abbrev t_Ru_goesPast_115 : List UInt8 := 160 :: 0 :: 10 :: t_Ru_goesPast_118
abbrev t_Ru_goesPast_113 : List UInt8 := 16 :: 16 :: t_Ru_goesPast_115
abbrev t_Ru_goesPast_112 : List UInt8 := 29 :: t_Ru_goesPast_113
abbrev t_Ru_goesPast_111 : List UInt8 := 172 :: t_Ru_goesPast_112
abbrev t_Ru_goesPast_110 : List UInt8 := 3 :: t_Ru_goesPast_111
abbrev t_Ru_goesPast_107 : List UInt8 := 167 :: 0 :: 4 :: t_Ru_goesPast_110
abbrev t_Ru_goesPast_106 : List UInt8 := 4 :: t_Ru_goesPast_107
abbrev t_Ru_goesPast_103 : List UInt8 := 160 :: 0 :: 7 :: t_Ru_goesPast_106
abbrev t_Ru_goesPast_102 : List UInt8 := 4 :: t_Ru_goesPast_103
abbrev t_Ru_goesPast_100 : List UInt8 := 21 :: 4 :: t_Ru_goesPast_102
abbrev t_Ru_goesPast_97 : List UInt8 := 159 :: 0 :: 15 :: t_Ru_goesPast_100
abbrev t_Ru_goesPast_96 : List UInt8 := 5 :: t_Ru_goesPast_97
abbrev t_Ru_goesPast_94 : List UInt8 := 21 :: 4 :: t_Ru_goesPast_96
abbrev t_Ru_goesPast_92 : List UInt8 := 54 :: 4 :: t_Ru_goesPast_94
abbrev t_Ru_goesPast_89 : List UInt8 := 182 :: 0 :: 157 :: t_Ru_goesPast_92
abbrev t_Ru_goesPast_88 : List UInt8 := 29 :: t_Ru_goesPast_89
abbrev t_Ru_goesPast_87 : List UInt8 := 27 :: t_Ru_goesPast_88
abbrev t_Ru_goesPast_86 : List UInt8 := 42 :: t_Ru_goesPast_87
abbrev t_Ru_goesPast_83 : List UInt8 := 167 :: 0 :: 9 :: t_Ru_goesPast_86
abbrev t_Ru_goesPast_80 : List UInt8 := 182 :: 0 :: 154 :: t_Ru_goesPast_83
abbrev t_Ru_goesPast_79 : List UInt8 := 29 :: t_Ru_goesPast_80
abbrev t_Ru_goesPast_78 : List UInt8 := 27 :: t_Ru_goesPast_79
abbrev t_Ru_goesPast_77 : List UInt8 := 42 :: t_Ru_goesPast_78
abbrev t_Ru_goesPast_74 : List UInt8 := 162 :: 0 :: 12 :: t_Ru_goesPast_77
abbrev t_Ru_goesPast_73 : List UInt8 := 46 :: t_Ru_goesPast_74
abbrev t_Ru_goesPast_72 : List UInt8 := 46 :: t_Ru_goesPast_73
abbrev t_Ru_goesPast_71 : List UInt8 := 27 :: t_Ru_goesPast_72
abbrev t_Ru_goesPast_68 : List UInt8 := 180 :: 0 :: 22 :: t_Ru_goesPast_71
abbrev t_Ru_goesPast_67 : List UInt8 := 42 :: t_Ru_goesPast_68
abbrev t_Ru_goesPast_64 : List UInt8 := 180 :: 0 :: 131 :: t_Ru_goesPast_67
abbrev t_Ru_goesPast_61 : List UInt8 := 180 :: 0 :: 12 :: t_Ru_goesPast_64
abbrev t_Ru_goesPast_60 : List UInt8 := 42 :: t_Ru_goesPast_61
abbrev t_Ru_goesPast_59 : List UInt8 := 46 :: t_Ru_goesPast_60
abbrev t_Ru_goesPast_58 : List UInt8 := 46 :: t_Ru_goesPast_59
abbrev t_Ru_goesPast_57 : List UInt8 := 27 :: t_Ru_goesPast_58
abbrev t_Ru_goesPast_54 : List UInt8 := 180 :: 0 :: 22 :: t_Ru_goesPast_57
abbrev t_Ru_goesPast_53 : List UInt8 := 42 :: t_Ru_goesPast_54
abbrev t_Ru_goesPast_50 : List UInt8 := 180 :: 0 :: 128 :: t_Ru_goesPast_53
abbrev t_Ru_goesPast_47 : List UInt8 := 180 :: 0 :: 12 :: t_Ru_goesPast_50
abbrev t_Ru_goesPast_46 : List UInt8 := 42 :: t_Ru_goesPast_47
abbrev t_Ru_goesPast_43 : List UInt8 := 153 :: 0 :: 51 :: t_Ru_goesPast_46
abbrev t_Ru_goesPast_40 : List UInt8 := 182 :: 0 :: 144 :: t_Ru_goesPast_43
abbrev t_Ru_goesPast_39 : List UInt8 := 27 :: t_Ru_goesPast_40
abbrev t_Ru_goesPast_38 : List UInt8 := 42 :: t_Ru_goesPast_39
abbrev t_Ru_goesPast_35 : List UInt8 := 167 :: 0 :: 59 :: t_Ru_goesPast_38
abbrev t_Ru_goesPast_33 : List UInt8 := 54 :: 4 :: t_Ru_goesPast_35
abbrev t_Ru_goesPast_30 : List UInt8 := 182 :: 0 :: 151 :: t_Ru_goesPast_33
abbrev t_Ru_goesPast_29 : List UInt8 := 29 :: t_Ru_goesPast_30
abbrev t_Ru_goesPast_28 : List UInt8 := 27 :: t_Ru_goesPast_29
abbrev t_Ru_goesPast_27 : List UInt8 := 42 :: t_Ru_goesPast_28
abbrev t_Ru_goesPast_24 : List UInt8 := 153 :: 0 :: 14 :: t_Ru_goesPast_27
abbrev t_Ru_goesPast_23 : List UInt8 := 46 :: t_Ru_goesPast_24
abbrev t_Ru_goesPast_22 : List UInt8 := 27 :: t_Ru_goesPast_23
abbrev t_Ru_goesPast_19 : List UInt8 := 180 :: 0 :: 32 :: t_Ru_goesPast_22
abbrev t_Ru_goesPast_18 : List UInt8 := 42 :: t_Ru_goesPast_19
abbrev t_Ru_goesPast_16 : List UInt8 := 54 :: 4 :: t_Ru_goesPast_18
abbrev t_Ru_goesPast_15 : List UInt8 := 3 :: t_Ru_goesPast_16
abbrev t_Ru_goesPast_14 : List UInt8 := 62 :: t_Ru_goesPast_15
abbrev t_Ru_goesPast_13 : List UInt8 := 46 :: t_Ru_goesPast_14
abbrev t_Ru_goesPast_12 : List UInt8 := 46 :: t_Ru_goesPast_13
abbrev t_Ru_goesPast_11 : List UInt8 := 27 :: t_Ru_goesPast_12
abbrev t_Ru_goesPast_8 : List UInt8 := 180 :: 0 :: 22 :: t_Ru_goesPast_11
abbrev t_Ru_goesPast_7 : List UInt8 := 42 :: t_Ru_goesPast_8
abbrev t_Ru_goesPast_4 : List UInt8 := 180 :: 0 :: 122 :: t_Ru_goesPast_7
abbrev t_Ru_goesPast_1 : List UInt8 := 180 :: 0 :: 12 :: t_Ru_goesPast_4
abbrev t_Ru_goesPast_0 : List UInt8 := 42 :: t_Ru_goesPast_1
theorem a_Ru_goesPast_0 : dk_at b_Ru_goesPast 0 t_Ru_goesPast_0 := dk_start (by decide +kernel)
theorem a_Ru_goesPast_1 : dk_at b_Ru_goesPast 1 t_Ru_goesPast_1 := dk_go 1 a_Ru_goesPast_0 rfl
theorem a_Ru_goesPast_4 : dk_at b_Ru_goesPast 4 t_Ru_goesPast_4 := dk_go 3 a_Ru_goesPast_1 rfl
theorem a_Ru_goesPast_7 : dk_at b_Ru_goesPast 7 t_Ru_goesPast_7 := dk_go 3 a_Ru_goesPast_4 rfl
theorem a_Ru_goesPast_8 : dk_at b_Ru_goesPast 8 t_Ru_goesPast_8 := dk_go 1 a_Ru_goesPast_7 rfl
theorem a_Ru_goesPast_11 : dk_at b_Ru_goesPast 11 t_Ru_goesPast_11 := dk_go 3 a_Ru_goesPast_8 rfl
theorem a_Ru_goesPast_12 : dk_at b_Ru_goesPast 12 t_Ru_goesPast_12 := dk_go 1 a_Ru_goesPast_11 rfl
theorem a_Ru_goesPast_13 : dk_at b_Ru_goesPast 13 t_Ru_goesPast_13 := dk_go 1 a_Ru_goesPast_12 rfl
theorem a_Ru_goesPast_14 : dk_at b_Ru_goesPast 14 t_Ru_goesPast_14 := dk_go 1 a_Ru_goesPast_13 rfl
theorem a_Ru_goesPast_15 : dk_at b_Ru_goesPast 15 t_Ru_goesPast_15 := dk_go 1 a_Ru_goesPast_14 rfl
theorem a_Ru_goesPast_16 : dk_at b_Ru_goesPast 16 t_Ru_goesPast_16 := dk_go 1 a_Ru_goesPast_15 rfl
theorem a_Ru_goesPast_18 : dk_at b_Ru_goesPast 18 t_Ru_goesPast_18 := dk_go 2 a_Ru_goesPast_16 rfl
theorem a_Ru_goesPast_19 : dk_at b_Ru_goesPast 19 t_Ru_goesPast_19 := dk_go 1 a_Ru_goesPast_18 rfl
theorem a_Ru_goesPast_22 : dk_at b_Ru_goesPast 22 t_Ru_goesPast_22 := dk_go 3 a_Ru_goesPast_19 rfl
theorem a_Ru_goesPast_23 : dk_at b_Ru_goesPast 23 t_Ru_goesPast_23 := dk_go 1 a_Ru_goesPast_22 rfl
theorem a_Ru_goesPast_24 : dk_at b_Ru_goesPast 24 t_Ru_goesPast_24 := dk_go 1 a_Ru_goesPast_23 rfl
theorem a_Ru_goesPast_27 : dk_at b_Ru_goesPast 27 t_Ru_goesPast_27 := dk_go 3 a_Ru_goesPast_24 rfl
theorem a_Ru_goesPast_28 : dk_at b_Ru_goesPast 28 t_Ru_goesPast_28 := dk_go 1 a_Ru_goesPast_27 rfl
theorem a_Ru_goesPast_29 : dk_at b_Ru_goesPast 29 t_Ru_goesPast_29 := dk_go 1 a_Ru_goesPast_28 rfl
theorem a_Ru_goesPast_30 : dk_at b_Ru_goesPast 30 t_Ru_goesPast_30 := dk_go 1 a_Ru_goesPast_29 rfl
theorem a_Ru_goesPast_33 : dk_at b_Ru_goesPast 33 t_Ru_goesPast_33 := dk_go 3 a_Ru_goesPast_30 rfl
theorem a_Ru_goesPast_35 : dk_at b_Ru_goesPast 35 t_Ru_goesPast_35 := dk_go 2 a_Ru_goesPast_33 rfl
theorem a_Ru_goesPast_38 : dk_at b_Ru_goesPast 38 t_Ru_goesPast_38 := dk_go 3 a_Ru_goesPast_35 rfl
theorem a_Ru_goesPast_39 : dk_at b_Ru_goesPast 39 t_Ru_goesPast_39 := dk_go 1 a_Ru_goesPast_38 rfl
theorem a_Ru_goesPast_40 : dk_at b_Ru_goesPast 40 t_Ru_goesPast_40 := dk_go 1 a_Ru_goesPast_39 rfl
theorem a_Ru_goesPast_43 : dk_at b_Ru_goesPast 43 t_Ru_goesPast_43 := dk_go 3 a_Ru_goesPast_40 rfl
theorem a_Ru_goesPast_46 : dk_at b_Ru_goesPast 46 t_Ru_goesPast_46 := dk_go 3 a_Ru_goesPast_43 rfl
theorem a_Ru_goesPast_47 : dk_at b_Ru_goesPast 47 t_Ru_goesPast_47 := dk_go 1 a_Ru_goesPast_46 rfl
theorem a_Ru_goesPast_50 : dk_at b_Ru_goesPast 50 t_Ru_goesPast_50 := dk_go 3 a_Ru_goesPast_47 rfl
theorem a_Ru_goesPast_53 : dk_at b_Ru_goesPast 53 t_Ru_goesPast_53 := dk_go 3 a_Ru_goesPast_50 rfl
theorem a_Ru_goesPast_54 : dk_at b_Ru_goesPast 54 t_Ru_goesPast_54 := dk_go 1 a_Ru_goesPast_53 rfl
theorem a_Ru_goesPast_57 : dk_at b_Ru_goesPast 57 t_Ru_goesPast_57 := dk_go 3 a_Ru_goesPast_54 rfl
theorem a_Ru_goesPast_58 : dk_at b_Ru_goesPast 58 t_Ru_goesPast_58 := dk_go 1 a_Ru_goesPast_57 rfl
theorem a_Ru_goesPast_59 : dk_at b_Ru_goesPast 59 t_Ru_goesPast_59 := dk_go 1 a_Ru_goesPast_58 rfl
theorem a_Ru_goesPast_60 : dk_at b_Ru_goesPast 60 t_Ru_goesPast_60 := dk_go 1 a_Ru_goesPast_59 rfl
theorem a_Ru_goesPast_61 : dk_at b_Ru_goesPast 61 t_Ru_goesPast_61 := dk_go 1 a_Ru_goesPast_60 rfl
theorem a_Ru_goesPast_64 : dk_at b_Ru_goesPast 64 t_Ru_goesPast_64 := dk_go 3 a_Ru_goesPast_61 rfl
theorem a_Ru_goesPast_67 : dk_at b_Ru_goesPast 67 t_Ru_goesPast_67 := dk_go 3 a_Ru_goesPast_64 rfl
theorem a_Ru_goesPast_68 : dk_at b_Ru_goesPast 68 t_Ru_goesPast_68 := dk_go 1 a_Ru_goesPast_67 rfl
theorem a_Ru_goesPast_71 : dk_at b_Ru_goesPast 71 t_Ru_goesPast_71 := dk_go 3 a_Ru_goesPast_68 rfl
theorem a_Ru_goesPast_72 : dk_at b_Ru_goesPast 72 t_Ru_goesPast_72 := dk_go 1 a_Ru_goesPast_71 rfl
theorem a_Ru_goesPast_73 : dk_at b_Ru_goesPast 73 t_Ru_goesPast_73 := dk_go 1 a_Ru_goesPast_72 rfl
theorem a_Ru_goesPast_74 : dk_at b_Ru_goesPast 74 t_Ru_goesPast_74 := dk_go 1 a_Ru_goesPast_73 rfl
theorem a_Ru_goesPast_77 : dk_at b_Ru_goesPast 77 t_Ru_goesPast_77 := dk_go 3 a_Ru_goesPast_74 rfl
theorem a_Ru_goesPast_78 : dk_at b_Ru_goesPast 78 t_Ru_goesPast_78 := dk_go 1 a_Ru_goesPast_77 rfl
theorem a_Ru_goesPast_79 : dk_at b_Ru_goesPast 79 t_Ru_goesPast_79 := dk_go 1 a_Ru_goesPast_78 rfl
theorem a_Ru_goesPast_80 : dk_at b_Ru_goesPast 80 t_Ru_goesPast_80 := dk_go 1 a_Ru_goesPast_79 rfl
theorem a_Ru_goesPast_83 : dk_at b_Ru_goesPast 83 t_Ru_goesPast_83 := dk_go 3 a_Ru_goesPast_80 rfl
theorem a_Ru_goesPast_86 : dk_at b_Ru_goesPast 86 t_Ru_goesPast_86 := dk_go 3 a_Ru_goesPast_83 rfl
theorem a_Ru_goesPast_87 : dk_at b_Ru_goesPast 87 t_Ru_goesPast_87 := dk_go 1 a_Ru_goesPast_86 rfl
theorem a_Ru_goesPast_88 : dk_at b_Ru_goesPast 88 t_Ru_goesPast_88 := dk_go 1 a_Ru_goesPast_87 rfl
theorem a_Ru_goesPast_89 : dk_at b_Ru_goesPast 89 t_Ru_goesPast_89 := dk_go 1 a_Ru_goesPast_88 rfl
theorem a_Ru_goesPast_92 : dk_at b_Ru_goesPast 92 t_Ru_goesPast_92 := dk_go 3 a_Ru_goesPast_89 rfl
theorem a_Ru_goesPast_94 : dk_at b_Ru_goesPast 94 t_Ru_goesPast_94 := dk_go 2 a_Ru_goesPast_92 rfl
theorem a_Ru_goesPast_96 : dk_at b_Ru_goesPast 96 t_Ru_goesPast_96 := dk_go 2 a_Ru_goesPast_94 rfl
theorem a_Ru_goesPast_97 : dk_at b_Ru_goesPast 97 t_Ru_goesPast_97 := dk_go 1 a_Ru_goesPast_96 rfl
theorem a_Ru_goesPast_100 : dk_at b_Ru_goesPast 100 t_Ru_goesPast_100 := dk_go 3 a_Ru_goesPast_97 rfl
theorem a_Ru_goesPast_102 : dk_at b_Ru_goesPast 102 t_Ru_goesPast_102 := dk_go 2 a_Ru_goesPast_100 rfl
theorem a_Ru_goesPast_103 : dk_at b_Ru_goesPast 103 t_Ru_goesPast_103 := dk_go 1 a_Ru_goesPast_102 rfl
theorem a_Ru_goesPast_106 : dk_at b_Ru_goesPast 106 t_Ru_goesPast_106 := dk_go 3 a_Ru_goesPast_103 rfl
theorem a_Ru_goesPast_107 : dk_at b_Ru_goesPast 107 t_Ru_goesPast_107 := dk_go 1 a_Ru_goesPast_106 rfl
theorem a_Ru_goesPast_110 : dk_at b_Ru_goesPast 110 t_Ru_goesPast_110 := dk_go 3 a_Ru_goesPast_107 rfl
theorem a_Ru_goesPast_111 : dk_at b_Ru_goesPast 111 t_Ru_goesPast_111 := dk_go 1 a_Ru_goesPast_110 rfl
theorem a_Ru_goesPast_112 : dk_at b_Ru_goesPast 112 t_Ru_goesPast_112 := dk_go 1 a_Ru_goesPast_111 rfl
theorem a_Ru_goesPast_113 : dk_at b_Ru_goesPast 113 t_Ru_goesPast_113 := dk_go 1 a_Ru_goesPast_112 rfl
theorem a_Ru_goesPast_115 : dk_at b_Ru_goesPast 115 t_Ru_goesPast_115 := dk_go 2 a_Ru_goesPast_113 rfl
theorem a_Ru_goesPast_118 : dk_at b_Ru_goesPast 118 t_Ru_goesPast_118 := dk_go 3 a_Ru_goesPast_115 rfl
theorem a_Ru_goesPast_119 : dk_at b_Ru_goesPast 119 t_Ru_goesPast_119 := dk_go 1 a_Ru_goesPast_118 rfl
theorem a_Ru_goesPast_120 : dk_at b_Ru_goesPast 120 t_Ru_goesPast_120 := dk_go 1 a_Ru_goesPast_119 rfl
theorem a_Ru_goesPast_121 : dk_at b_Ru_goesPast 121 t_Ru_goesPast_121 := dk_go 1 a_Ru_goesPast_120 rfl
theorem a_Ru_goesPast_124 : dk_at b_Ru_goesPast 124 t_Ru_goesPast_124 := dk_go 3 a_Ru_goesPast_121 rfl
theorem a_Ru_goesPast_125 : dk_at b_Ru_goesPast 125 t_Ru_goesPast_125 := dk_go 1 a_Ru_goesPast_124 rfl
theorem a_Ru_goesPast_126 : dk_at b_Ru_goesPast 126 t_Ru_goesPast_126 := dk_go 1 a_Ru_goesPast_125 rfl
theorem a_Ru_goesPast_128 : dk_at b_Ru_goesPast 128 t_Ru_goesPast_128 := dk_go 2 a_Ru_goesPast_126 rfl
theorem a_Ru_goesPast_131 : dk_at b_Ru_goesPast 131 t_Ru_goesPast_131 := dk_go 3 a_Ru_goesPast_128 rfl
theorem a_Ru_goesPast_132 : dk_at b_Ru_goesPast 132 t_Ru_goesPast_132 := dk_go 1 a_Ru_goesPast_131 rfl
theorem a_Ru_goesPast_133 : dk_at b_Ru_goesPast 133 t_Ru_goesPast_133 := dk_go 1 a_Ru_goesPast_132 rfl
theorem a_Ru_goesPast_134 : dk_at b_Ru_goesPast 134 t_Ru_goesPast_134 := dk_go 1 a_Ru_goesPast_133 rfl
theorem a_Ru_goesPast_137 : dk_at b_Ru_goesPast 137 t_Ru_goesPast_137 := dk_go 3 a_Ru_goesPast_134 rfl
theorem a_Ru_goesPast_138 : dk_at b_Ru_goesPast 138 t_Ru_goesPast_138 := dk_go 1 a_Ru_goesPast_137 rfl
theorem a_Ru_goesPast_139 : dk_at b_Ru_goesPast 139 t_Ru_goesPast_139 := dk_go 1 a_Ru_goesPast_138 rfl
theorem a_Ru_goesPast_142 : dk_at b_Ru_goesPast 142 t_Ru_goesPast_142 := dk_go 3 a_Ru_goesPast_139 rfl
theorem a_Ru_goesPast_143 : dk_at b_Ru_goesPast 143 t_Ru_goesPast_143 := dk_go 1 a_Ru_goesPast_142 rfl
theorem a_Ru_goesPast_144 : dk_at b_Ru_goesPast 144 t_Ru_goesPast_144 := dk_go 1 a_Ru_goesPast_143 rfl
theorem a_Ru_goesPast_147 : dk_at b_Ru_goesPast 147 t_Ru_goesPast_147 := dk_go 3 a_Ru_goesPast_144 rfl
theorem a_Ru_goesPast_148 : dk_at b_Ru_goesPast 148 t_Ru_goesPast_148 := dk_go 1 a_Ru_goesPast_147 rfl
theorem a_Ru_goesPast_149 : dk_at b_Ru_goesPast 149 t_Ru_goesPast_149 := dk_go 1 a_Ru_goesPast_148 rfl
theorem a_Ru_goesPast_152 : dk_at b_Ru_goesPast 152 t_Ru_goesPast_152 := dk_go 3 a_Ru_goesPast_149 rfl
theorem a_Ru_goesPast_153 : dk_at b_Ru_goesPast 153 t_Ru_goesPast_153 := dk_go 1 a_Ru_goesPast_152 rfl
theorem a_Ru_goesPast_154 : dk_at b_Ru_goesPast 154 t_Ru_goesPast_154 := dk_go 1 a_Ru_goesPast_153 rfl
theorem a_Ru_goesPast_155 : dk_at b_Ru_goesPast 155 t_Ru_goesPast_155 := dk_go 1 a_Ru_goesPast_154 rfl
theorem a_Ru_goesPast_156 : dk_at b_Ru_goesPast 156 t_Ru_goesPast_156 := dk_go 1 a_Ru_goesPast_155 rfl
theorem a_Ru_goesPast_157 : dk_at b_Ru_goesPast 157 t_Ru_goesPast_157 := dk_go 1 a_Ru_goesPast_156 rfl
theorem a_Ru_goesPast_160 : dk_at b_Ru_goesPast 160 t_Ru_goesPast_160 := dk_go 3 a_Ru_goesPast_157 rfl
theorem a_Ru_goesPast_163 : dk_at b_Ru_goesPast 163 t_Ru_goesPast_163 := dk_go 3 a_Ru_goesPast_160 rfl
theorem a_Ru_goesPast_164 : dk_at b_Ru_goesPast 164 t_Ru_goesPast_164 := dk_go 1 a_Ru_goesPast_163 rfl
theorem a_Ru_goesPast_167 : dk_at b_Ru_goesPast 167 t_Ru_goesPast_167 := dk_go 3 a_Ru_goesPast_164 rfl
theorem a_Ru_goesPast_168 : dk_at b_Ru_goesPast 168 t_Ru_goesPast_168 := dk_go 1 a_Ru_goesPast_167 rfl
theorem d_Ru_goesPast_0 : decode b_Ru_goesPast 0 = .ok (.aload_n 0, 1) := dk_0 a_Ru_goesPast_0 (dko_42 _)
theorem d_Ru_goesPast_1 : decode b_Ru_goesPast 1 = .ok (.getfield 12, 3) := dk_U2 a_Ru_goesPast_1 (dko_180 _) rfl
theorem d_Ru_goesPast_4 : decode b_Ru_goesPast 4 = .ok (.getfield 122, 3) := dk_U2 a_Ru_goesPast_4 (dko_180 _) rfl
theorem d_Ru_goesPast_7 : decode b_Ru_goesPast 7 = .ok (.aload_n 0, 1) := dk_0 a_Ru_goesPast_7 (dko_42 _)
theorem d_Ru_goesPast_8 : decode b_Ru_goesPast 8 = .ok (.getfield 22, 3) := dk_U2 a_Ru_goesPast_8 (dko_180 _) rfl
theorem d_Ru_goesPast_11 : decode b_Ru_goesPast 11 = .ok (.iload_n 1, 1) := dk_0 a_Ru_goesPast_11 (dko_27 _)
theorem d_Ru_goesPast_12 : decode b_Ru_goesPast 12 = .ok (.iaload, 1) := dk_0 a_Ru_goesPast_12 (dko_46 _)
theorem d_Ru_goesPast_13 : decode b_Ru_goesPast 13 = .ok (.iaload, 1) := dk_0 a_Ru_goesPast_13 (dko_46 _)
theorem d_Ru_goesPast_14 : decode b_Ru_goesPast 14 = .ok (.istore_n 3, 1) := dk_0 a_Ru_goesPast_14 (dko_62 _)
theorem d_Ru_goesPast_15 : decode b_Ru_goesPast 15 = .ok (.iconst 0, 1) := dk_0 a_Ru_goesPast_15 (dko_3 _)
theorem d_Ru_goesPast_16 : decode b_Ru_goesPast 16 = .ok (.istore 4, 2) := dk_U1 a_Ru_goesPast_16 (dko_54 _) rfl
theorem d_Ru_goesPast_18 : decode b_Ru_goesPast 18 = .ok (.aload_n 0, 1) := dk_0 a_Ru_goesPast_18 (dko_42 _)
theorem d_Ru_goesPast_19 : decode b_Ru_goesPast 19 = .ok (.getfield 32, 3) := dk_U2 a_Ru_goesPast_19 (dko_180 _) rfl
theorem d_Ru_goesPast_22 : decode b_Ru_goesPast 22 = .ok (.iload_n 1, 1) := dk_0 a_Ru_goesPast_22 (dko_27 _)
theorem d_Ru_goesPast_23 : decode b_Ru_goesPast 23 = .ok (.iaload, 1) := dk_0 a_Ru_goesPast_23 (dko_46 _)
theorem d_Ru_goesPast_24 : decode b_Ru_goesPast 24 = .ok (.ifCond .eq 14, 3) := dk_S2 a_Ru_goesPast_24 (dko_153 _) (by decide +kernel)
theorem d_Ru_goesPast_27 : decode b_Ru_goesPast 27 = .ok (.aload_n 0, 1) := dk_0 a_Ru_goesPast_27 (dko_42 _)
theorem d_Ru_goesPast_28 : decode b_Ru_goesPast 28 = .ok (.iload_n 1, 1) := dk_0 a_Ru_goesPast_28 (dko_27 _)
theorem d_Ru_goesPast_29 : decode b_Ru_goesPast 29 = .ok (.iload_n 3, 1) := dk_0 a_Ru_goesPast_29 (dko_29 _)
theorem d_Ru_goesPast_30 : decode b_Ru_goesPast 30 = .ok (.invokevirtual 151, 3) := dk_U2 a_Ru_goesPast_30 (dko_182 _) rfl
theorem d_Ru_goesPast_33 : decode b_Ru_goesPast 33 = .ok (.istore 4, 2) := dk_U1 a_Ru_goesPast_33 (dko_54 _) rfl
theorem d_Ru_goesPast_35 : decode b_Ru_goesPast 35 = .ok (.goto 59, 3) := dk_S2 a_Ru_goesPast_35 (dko_167 _) (by decide +kernel)
theorem d_Ru_goesPast_38 : decode b_Ru_goesPast 38 = .ok (.aload_n 0, 1) := dk_0 a_Ru_goesPast_38 (dko_42 _)
theorem d_Ru_goesPast_39 : decode b_Ru_goesPast 39 = .ok (.iload_n 1, 1) := dk_0 a_Ru_goesPast_39 (dko_27 _)
theorem d_Ru_goesPast_40 : decode b_Ru_goesPast 40 = .ok (.invokevirtual 144, 3) := dk_U2 a_Ru_goesPast_40 (dko_182 _) rfl
theorem d_Ru_goesPast_43 : decode b_Ru_goesPast 43 = .ok (.ifCond .eq 51, 3) := dk_S2 a_Ru_goesPast_43 (dko_153 _) (by decide +kernel)
theorem d_Ru_goesPast_46 : decode b_Ru_goesPast 46 = .ok (.aload_n 0, 1) := dk_0 a_Ru_goesPast_46 (dko_42 _)
theorem d_Ru_goesPast_47 : decode b_Ru_goesPast 47 = .ok (.getfield 12, 3) := dk_U2 a_Ru_goesPast_47 (dko_180 _) rfl
theorem d_Ru_goesPast_50 : decode b_Ru_goesPast 50 = .ok (.getfield 128, 3) := dk_U2 a_Ru_goesPast_50 (dko_180 _) rfl
theorem d_Ru_goesPast_53 : decode b_Ru_goesPast 53 = .ok (.aload_n 0, 1) := dk_0 a_Ru_goesPast_53 (dko_42 _)
theorem d_Ru_goesPast_54 : decode b_Ru_goesPast 54 = .ok (.getfield 22, 3) := dk_U2 a_Ru_goesPast_54 (dko_180 _) rfl
theorem d_Ru_goesPast_57 : decode b_Ru_goesPast 57 = .ok (.iload_n 1, 1) := dk_0 a_Ru_goesPast_57 (dko_27 _)
theorem d_Ru_goesPast_58 : decode b_Ru_goesPast 58 = .ok (.iaload, 1) := dk_0 a_Ru_goesPast_58 (dko_46 _)
theorem d_Ru_goesPast_59 : decode b_Ru_goesPast 59 = .ok (.iaload, 1) := dk_0 a_Ru_goesPast_59 (dko_46 _)
theorem d_Ru_goesPast_60 : decode b_Ru_goesPast 60 = .ok (.aload_n 0, 1) := dk_0 a_Ru_goesPast_60 (dko_42 _)
theorem d_Ru_goesPast_61 : decode b_Ru_goesPast 61 = .ok (.getfield 12, 3) := dk_U2 a_Ru_goesPast_61 (dko_180 _) rfl
theorem d_Ru_goesPast_64 : decode b_Ru_goesPast 64 = .ok (.getfield 131, 3) := dk_U2 a_Ru_goesPast_64 (dko_180 _) rfl
theorem d_Ru_goesPast_67 : decode b_Ru_goesPast 67 = .ok (.aload_n 0, 1) := dk_0 a_Ru_goesPast_67 (dko_42 _)
theorem d_Ru_goesPast_68 : decode b_Ru_goesPast 68 = .ok (.getfield 22, 3) := dk_U2 a_Ru_goesPast_68 (dko_180 _) rfl
theorem d_Ru_goesPast_71 : decode b_Ru_goesPast 71 = .ok (.iload_n 1, 1) := dk_0 a_Ru_goesPast_71 (dko_27 _)
theorem d_Ru_goesPast_72 : decode b_Ru_goesPast 72 = .ok (.iaload, 1) := dk_0 a_Ru_goesPast_72 (dko_46 _)
theorem d_Ru_goesPast_73 : decode b_Ru_goesPast 73 = .ok (.iaload, 1) := dk_0 a_Ru_goesPast_73 (dko_46 _)
theorem d_Ru_goesPast_74 : decode b_Ru_goesPast 74 = .ok (.if_icmp .ge 12, 3) := dk_S2 a_Ru_goesPast_74 (dko_162 _) (by decide +kernel)
theorem d_Ru_goesPast_77 : decode b_Ru_goesPast 77 = .ok (.aload_n 0, 1) := dk_0 a_Ru_goesPast_77 (dko_42 _)
theorem d_Ru_goesPast_78 : decode b_Ru_goesPast 78 = .ok (.iload_n 1, 1) := dk_0 a_Ru_goesPast_78 (dko_27 _)
theorem d_Ru_goesPast_79 : decode b_Ru_goesPast 79 = .ok (.iload_n 3, 1) := dk_0 a_Ru_goesPast_79 (dko_29 _)
theorem d_Ru_goesPast_80 : decode b_Ru_goesPast 80 = .ok (.invokevirtual 154, 3) := dk_U2 a_Ru_goesPast_80 (dko_182 _) rfl
theorem d_Ru_goesPast_83 : decode b_Ru_goesPast 83 = .ok (.goto 9, 3) := dk_S2 a_Ru_goesPast_83 (dko_167 _) (by decide +kernel)
theorem d_Ru_goesPast_86 : decode b_Ru_goesPast 86 = .ok (.aload_n 0, 1) := dk_0 a_Ru_goesPast_86 (dko_42 _)
theorem d_Ru_goesPast_87 : decode b_Ru_goesPast 87 = .ok (.iload_n 1, 1) := dk_0 a_Ru_goesPast_87 (dko_27 _)
theorem d_Ru_goesPast_88 : decode b_Ru_goesPast 88 = .ok (.iload_n 3, 1) := dk_0 a_Ru_goesPast_88 (dko_29 _)
theorem d_Ru_goesPast_89 : decode b_Ru_goesPast 89 = .ok (.invokevirtual 157, 3) := dk_U2 a_Ru_goesPast_89 (dko_182 _) rfl
theorem d_Ru_goesPast_92 : decode b_Ru_goesPast 92 = .ok (.istore 4, 2) := dk_U1 a_Ru_goesPast_92 (dko_54 _) rfl
theorem d_Ru_goesPast_94 : decode b_Ru_goesPast 94 = .ok (.iload 4, 2) := dk_U1 a_Ru_goesPast_94 (dko_21 _) rfl
theorem d_Ru_goesPast_96 : decode b_Ru_goesPast 96 = .ok (.iconst 2, 1) := dk_0 a_Ru_goesPast_96 (dko_5 _)
theorem d_Ru_goesPast_97 : decode b_Ru_goesPast 97 = .ok (.if_icmp .eq 15, 3) := dk_S2 a_Ru_goesPast_97 (dko_159 _) (by decide +kernel)
theorem d_Ru_goesPast_100 : decode b_Ru_goesPast 100 = .ok (.iload 4, 2) := dk_U1 a_Ru_goesPast_100 (dko_21 _) rfl
theorem d_Ru_goesPast_102 : decode b_Ru_goesPast 102 = .ok (.iconst 1, 1) := dk_0 a_Ru_goesPast_102 (dko_4 _)
theorem d_Ru_goesPast_103 : decode b_Ru_goesPast 103 = .ok (.if_icmp .ne 7, 3) := dk_S2 a_Ru_goesPast_103 (dko_160 _) (by decide +kernel)
theorem d_Ru_goesPast_106 : decode b_Ru_goesPast 106 = .ok (.iconst 1, 1) := dk_0 a_Ru_goesPast_106 (dko_4 _)
theorem d_Ru_goesPast_107 : decode b_Ru_goesPast 107 = .ok (.goto 4, 3) := dk_S2 a_Ru_goesPast_107 (dko_167 _) (by decide +kernel)
theorem d_Ru_goesPast_110 : decode b_Ru_goesPast 110 = .ok (.iconst 0, 1) := dk_0 a_Ru_goesPast_110 (dko_3 _)
theorem d_Ru_goesPast_111 : decode b_Ru_goesPast 111 = .ok (.ireturn, 1) := dk_0 a_Ru_goesPast_111 (dko_172 _)
theorem d_Ru_goesPast_112 : decode b_Ru_goesPast 112 = .ok (.iload_n 3, 1) := dk_0 a_Ru_goesPast_112 (dko_29 _)
theorem d_Ru_goesPast_113 : decode b_Ru_goesPast 113 = .ok (.bipush 16, 2) := dk_S1 a_Ru_goesPast_113 (dko_16 _) (by decide +kernel)
theorem d_Ru_goesPast_115 : decode b_Ru_goesPast 115 = .ok (.if_icmp .ne 10, 3) := dk_S2 a_Ru_goesPast_115 (dko_160 _) (by decide +kernel)
theorem d_Ru_goesPast_118 : decode b_Ru_goesPast 118 = .ok (.aload_n 0, 1) := dk_0 a_Ru_goesPast_118 (dko_42 _)
theorem d_Ru_goesPast_119 : decode b_Ru_goesPast 119 = .ok (.iload_n 1, 1) := dk_0 a_Ru_goesPast_119 (dko_27 _)
theorem d_Ru_goesPast_120 : decode b_Ru_goesPast 120 = .ok (.iload_n 2, 1) := dk_0 a_Ru_goesPast_120 (dko_28 _)
theorem d_Ru_goesPast_121 : decode b_Ru_goesPast 121 = .ok (.invokevirtual 160, 3) := dk_U2 a_Ru_goesPast_121 (dko_182 _) rfl
theorem d_Ru_goesPast_124 : decode b_Ru_goesPast 124 = .ok (.ireturn, 1) := dk_0 a_Ru_goesPast_124 (dko_172 _)
theorem d_Ru_goesPast_125 : decode b_Ru_goesPast 125 = .ok (.iload_n 3, 1) := dk_0 a_Ru_goesPast_125 (dko_29 _)
theorem d_Ru_goesPast_126 : decode b_Ru_goesPast 126 = .ok (.bipush 19, 2) := dk_S1 a_Ru_goesPast_126 (dko_16 _) (by decide +kernel)
theorem d_Ru_goesPast_128 : decode b_Ru_goesPast 128 = .ok (.if_icmp .ne 10, 3) := dk_S2 a_Ru_goesPast_128 (dko_160 _) (by decide +kernel)
theorem d_Ru_goesPast_131 : decode b_Ru_goesPast 131 = .ok (.aload_n 0, 1) := dk_0 a_Ru_goesPast_131 (dko_42 _)
theorem d_Ru_goesPast_132 : decode b_Ru_goesPast 132 = .ok (.iload_n 1, 1) := dk_0 a_Ru_goesPast_132 (dko_27 _)
theorem d_Ru_goesPast_133 : decode b_Ru_goesPast 133 = .ok (.iload_n 2, 1) := dk_0 a_Ru_goesPast_133 (dko_28 _)
theorem d_Ru_goesPast_134 : decode b_Ru_goesPast 134 = .ok (.invokevirtual 163, 3) := dk_U2 a_Ru_goesPast_134 (dko_182 _) rfl
theorem d_Ru_goesPast_137 : decode b_Ru_goesPast 137 = .ok (.ireturn, 1) := dk_0 a_Ru_goesPast_137 (dko_172 _)
theorem d_Ru_goesPast_138 : decode b_Ru_goesPast 138 = .ok (.aload_n 0, 1) := dk_0 a_Ru_goesPast_138 (dko_42 _)
theorem d_Ru_goesPast_139 : decode b_Ru_goesPast 139 = .ok (.getfield 35, 3) := dk_U2 a_Ru_goesPast_139 (dko_180 _) rfl
theorem d_Ru_goesPast_142 : decode b_Ru_goesPast 142 = .ok (.iload_n 1, 1) := dk_0 a_Ru_goesPast_142 (dko_27 _)
theorem d_Ru_goesPast_143 : decode b_Ru_goesPast 143 = .ok (.iaload, 1) := dk_0 a_Ru_goesPast_143 (dko_46 _)
theorem d_Ru_goesPast_144 : decode b_Ru_goesPast 144 = .ok (.ifCond .lt 19, 3) := dk_S2 a_Ru_goesPast_144 (dko_155 _) (by decide +kernel)
theorem d_Ru_goesPast_147 : decode b_Ru_goesPast 147 = .ok (.aload_n 0, 1) := dk_0 a_Ru_goesPast_147 (dko_42 _)
theorem d_Ru_goesPast_148 : decode b_Ru_goesPast 148 = .ok (.aload_n 0, 1) := dk_0 a_Ru_goesPast_148 (dko_42 _)
theorem d_Ru_goesPast_149 : decode b_Ru_goesPast 149 = .ok (.getfield 35, 3) := dk_U2 a_Ru_goesPast_149 (dko_180 _) rfl
theorem d_Ru_goesPast_152 : decode b_Ru_goesPast 152 = .ok (.iload_n 1, 1) := dk_0 a_Ru_goesPast_152 (dko_27 _)
theorem d_Ru_goesPast_153 : decode b_Ru_goesPast 153 = .ok (.iaload, 1) := dk_0 a_Ru_goesPast_153 (dko_46 _)
theorem d_Ru_goesPast_154 : decode b_Ru_goesPast 154 = .ok (.iload_n 2, 1) := dk_0 a_Ru_goesPast_154 (dko_28 _)
theorem d_Ru_goesPast_155 : decode b_Ru_goesPast 155 = .ok (.iconst 1, 1) := dk_0 a_Ru_goesPast_155 (dko_4 _)
theorem d_Ru_goesPast_156 : decode b_Ru_goesPast 156 = .ok (.iadd, 1) := dk_0 a_Ru_goesPast_156 (dko_96 _)
theorem d_Ru_goesPast_157 : decode b_Ru_goesPast 157 = .ok (.invokevirtual 107, 3) := dk_U2 a_Ru_goesPast_157 (dko_182 _) rfl
theorem d_Ru_goesPast_160 : decode b_Ru_goesPast 160 = .ok (.ifCond .eq 7, 3) := dk_S2 a_Ru_goesPast_160 (dko_153 _) (by decide +kernel)
theorem d_Ru_goesPast_163 : decode b_Ru_goesPast 163 = .ok (.iconst 1, 1) := dk_0 a_Ru_goesPast_163 (dko_4 _)
theorem d_Ru_goesPast_164 : decode b_Ru_goesPast 164 = .ok (.goto 4, 3) := dk_S2 a_Ru_goesPast_164 (dko_167 _) (by decide +kernel)
theorem d_Ru_goesPast_167 : decode b_Ru_goesPast 167 = .ok (.iconst 0, 1) := dk_0 a_Ru_goesPast_167 (dko_3 _)
theorem d_Ru_goesPast_168 : decode b_Ru_goesPast 168 = .ok (.ireturn, 1) := dk_0 a_Ru_goesPast_168 (dko_172 _)
set_option maxHeartbeats 4000000 in
set_option maxRecDepth 100000 in
theorem ok_Ru_goesPast (pc : Nat) : OpS mt mi_Ru_goesPast pc (cs_Ru_goesPast pc) := (os_n (os_n (os_n (os_n (os_n (os_n (os_l (so_aload_n d_Ru_goesPast_0 rfl)) (os_n (os_l (so_get (C := R_Ru) (T := F_Ru) (N := 21) (j := 3) in_Ru rfl (by decide) mw_514 d_Ru_goesPast_1)) (os_l (so_get (C := R_Pr) (T := F_Pr) (N := 18) (j := 3) in_Pr rfl (by decide) mw_438 d_Ru_goesPast_4)))) (os_n (os_l (so_aload_n d_Ru_goesPast_7 rfl)) (os_n (os_l (so_get (C := R_Ru) (T := F_Ru) (N := 21) (j := 6) in_Ru rfl (by decide) mw_519 d_Ru_goesPast_8)) (os_l (so_iload_n d_Ru_goesPast_11 rfl))))) (os_n (os_n (os_l (so_iaload d_Ru_goesPast_12)) (os_n (os_l (so_iaload d_Ru_goesPast_13)) (os_l (so_istore_n d_Ru_goesPast_14 rfl (by decide))))) (os_n (os_l (so_iconst d_Ru_goesPast_15 (by decide))) (os_n (os_l (so_istore d_Ru_goesPast_16 (by decide))) (os_l (so_aload_n d_Ru_goesPast_18 rfl)))))) (os_n (os_n (os_n (os_l (so_get (C := R_Ru) (T := F_Ru) (N := 21) (j := 9) in_Ru rfl (by decide) mw_522 d_Ru_goesPast_19)) (os_n (os_l (so_iload_n d_Ru_goesPast_22 rfl)) (os_l (so_iaload d_Ru_goesPast_23)))) (os_n (os_l (so_ifeq d_Ru_goesPast_24 (by decide))) (os_n (os_l (so_aload_n d_Ru_goesPast_27 rfl)) (os_l (so_iload_n d_Ru_goesPast_28 rfl))))) (os_n (os_n (os_l (so_iload_n d_Ru_goesPast_29 rfl)) (os_n (os_l (so_callV (iv := mi_Ru_lookAgain) rfl rfl rfl mw_1386 mw_1388 sl_73 mw_11 mw_1389 ⟨by decide +kernel, by decide +kernel, by decide +kernel⟩ (by decide) d_Ru_goesPast_30)) (os_l (so_istore d_Ru_goesPast_33 (by decide))))) (os_n (os_l (so_goto d_Ru_goesPast_35 (by decide))) (os_n (os_l (so_aload_n d_Ru_goesPast_38 rfl)) (os_l (so_iload_n d_Ru_goesPast_39 rfl))))))) (os_n (os_n (os_n (os_n (os_l (so_callV (iv := mi_Ru_mayBegin) rfl rfl rfl mw_1378 mw_1380 sl_71 mw_11 mw_1381 ⟨by decide +kernel, by decide +kernel, by decide +kernel⟩ (by decide) d_Ru_goesPast_40)) (os_n (os_l (so_ifeq d_Ru_goesPast_43 (by decide))) (os_l (so_aload_n d_Ru_goesPast_46 rfl)))) (os_n (os_l (so_get (C := R_Ru) (T := F_Ru) (N := 21) (j := 3) in_Ru rfl (by decide) mw_514 d_Ru_goesPast_47)) (os_n (os_l (so_get (C := R_Pr) (T := F_Pr) (N := 18) (j := 5) in_Pr rfl (by decide) mw_444 d_Ru_goesPast_50)) (os_l (so_aload_n d_Ru_goesPast_53 rfl))))) (os_n (os_n (os_l (so_get (C := R_Ru) (T := F_Ru) (N := 21) (j := 6) in_Ru rfl (by decide) mw_519 d_Ru_goesPast_54)) (os_n (os_l (so_iload_n d_Ru_goesPast_57 rfl)) (os_l (so_iaload d_Ru_goesPast_58)))) (os_n (os_l (so_iaload d_Ru_goesPast_59)) (os_n (os_l (so_aload_n d_Ru_goesPast_60 rfl)) (os_l (so_get (C := R_Ru) (T := F_Ru) (N := 21) (j := 3) in_Ru rfl (by decide) mw_514 d_Ru_goesPast_61)))))) (os_n (os_n (os_n (os_l (so_get (C := R_Pr) (T := F_Pr) (N := 18) (j := 6) in_Pr rfl (by decide) mw_447 d_Ru_goesPast_64)) (os_n (os_l (so_aload_n d_Ru_goesPast_67 rfl)) (os_l (so_get (C := R_Ru) (T := F_Ru) (N := 21) (j := 6) in_Ru rfl (by decide) mw_519 d_Ru_goesPast_68)))) (os_n (os_l (so_iload_n d_Ru_goesPast_71 rfl)) (os_n (os_l (so_iaload d_Ru_goesPast_72)) (os_l (so_iaload d_Ru_goesPast_73))))) (os_n (os_n (os_l (so_icge d_Ru_goesPast_74 (by decide))) (os_n (os_l (so_aload_n d_Ru_goesPast_77 rfl)) (os_l (so_iload_n d_Ru_goesPast_78 rfl)))) (os_n (os_n (os_l (so_iload_n d_Ru_goesPast_79 rfl)) (os_l (so_callV (iv := mi_Ru_beginReckoned) rfl rfl rfl mw_1401 mw_1403 sl_76 mw_11 mw_1404 ⟨by decide +kernel, by decide +kernel, by decide +kernel⟩ (by decide) d_Ru_goesPast_80))) (os_n (os_l (so_goto d_Ru_goesPast_83 (by decide))) (os_l (so_aload_n d_Ru_goesPast_86 rfl)))))))) (os_n (os_n (os_n (os_n (os_n (os_l (so_iload_n d_Ru_goesPast_87 rfl)) (os_n (os_l (so_iload_n d_Ru_goesPast_88 rfl)) (os_l (so_callV (iv := mi_Ru_beginPlain) rfl rfl rfl mw_1417 mw_1419 sl_80 mw_11 mw_1420 ⟨by decide +kernel, by decide +kernel, by decide +kernel⟩ (by decide) d_Ru_goesPast_89)))) (os_n (os_l (so_istore d_Ru_goesPast_92 (by decide))) (os_n (os_l (so_iload d_Ru_goesPast_94)) (os_l (so_iconst d_Ru_goesPast_96 (by decide)))))) (os_n (os_n (os_l (so_iceq d_Ru_goesPast_97 (by decide))) (os_n (os_l (so_iload d_Ru_goesPast_100)) (os_l (so_iconst d_Ru_goesPast_102 (by decide))))) (os_n (os_l (so_icne d_Ru_goesPast_103 (by decide))) (os_n (os_l (so_iconst d_Ru_goesPast_106 (by decide))) (os_l (so_goto d_Ru_goesPast_107 (by decide))))))) (os_n (os_n (os_n (os_l (so_iconst d_Ru_goesPast_110 (by decide))) (os_n (os_l (so_zreturn rfl d_Ru_goesPast_111)) (os_l (so_iload_n d_Ru_goesPast_112 rfl)))) (os_n (os_l (so_bipush d_Ru_goesPast_113 (by decide))) (os_n (os_l (so_icne d_Ru_goesPast_115 (by decide))) (os_l (so_aload_n d_Ru_goesPast_118 rfl))))) (os_n (os_n (os_l (so_iload_n d_Ru_goesPast_119 rfl)) (os_n (os_l (so_iload_n d_Ru_goesPast_120 rfl)) (os_l (so_callV (iv := mi_Ru_endsAllSides) rfl rfl rfl mw_1426 mw_1428 sl_82 mw_11 mw_1429 ⟨by decide +kernel, by decide +kernel, by decide +kernel⟩ (by decide) d_Ru_goesPast_121)))) (os_n (os_l (so_zreturn rfl d_Ru_goesPast_124)) (os_n (os_l (so_iload_n d_Ru_goesPast_125 rfl)) (os_l (so_bipush d_Ru_goesPast_126 (by decide)))))))) (os_n (os_n (os_n (os_n (os_l (so_icne d_Ru_goesPast_128 (by decide))) (os_n (os_l (so_aload_n d_Ru_goesPast_131 rfl)) (os_l (so_iload_n d_Ru_goesPast_132 rfl)))) (os_n (os_l (so_iload_n d_Ru_goesPast_133 rfl)) (os_n (os_l (so_callV (iv := mi_Ru_endsRounds) rfl rfl rfl mw_1430 mw_1432 sl_83 mw_11 mw_1433 ⟨by decide +kernel, by decide +kernel, by decide +kernel⟩ (by decide) d_Ru_goesPast_134)) (os_l (so_zreturn rfl d_Ru_goesPast_137))))) (os_n (os_n (os_l (so_aload_n d_Ru_goesPast_138 rfl)) (os_n (os_l (so_get (C := R_Ru) (T := F_Ru) (N := 21) (j := 10) in_Ru rfl (by decide) mw_523 d_Ru_goesPast_139)) (os_l (so_iload_n d_Ru_goesPast_142 rfl)))) (os_n (os_l (so_iaload d_Ru_goesPast_143)) (os_n (os_l (so_iflt d_Ru_goesPast_144 (by decide))) (os_l (so_aload_n d_Ru_goesPast_147 rfl)))))) (os_n (os_n (os_n (os_l (so_aload_n d_Ru_goesPast_148 rfl)) (os_n (os_l (so_get (C := R_Ru) (T := F_Ru) (N := 21) (j := 10) in_Ru rfl (by decide) mw_523 d_Ru_goesPast_149)) (os_l (so_iload_n d_Ru_goesPast_152 rfl)))) (os_n (os_l (so_iaload d_Ru_goesPast_153)) (os_n (os_l (so_iload_n d_Ru_goesPast_154 rfl)) (os_l (so_iconst d_Ru_goesPast_155 (by decide)))))) (os_n (os_n (os_l (so_iadd d_Ru_goesPast_156)) (os_n (os_l (so_callV (iv := mi_Ru_goOn) rfl rfl rfl mw_1374 mw_1376 sl_70 mw_11 mw_1377 ⟨by decide +kernel, by decide +kernel, by decide +kernel⟩ (by decide) d_Ru_goesPast_157)) (os_l (so_ifeq d_Ru_goesPast_160 (by decide))))) (os_n (os_n (os_l (so_iconst d_Ru_goesPast_163 (by decide))) (os_l (so_goto d_Ru_goesPast_164 (by decide)))) (os_n (os_l (so_iconst d_Ru_goesPast_167 (by decide))) (os_l (so_zreturn rfl d_Ru_goesPast_168)))))))))
abbrev t_Ru_endsAllSides_87 : List UInt8 := 172 :: []
abbrev t_Ru_endsAllSides_86 : List UInt8 := 29 :: t_Ru_endsAllSides_87
abbrev t_Ru_endsAllSides_83 : List UInt8 := 167 :: 255 :: 186 :: t_Ru_endsAllSides_86
abbrev t_Ru_endsAllSides_80 : List UInt8 := 132 :: 5 :: 1 :: t_Ru_endsAllSides_83
abbrev t_Ru_endsAllSides_78 : List UInt8 := 54 :: 4 :: t_Ru_endsAllSides_80
abbrev t_Ru_endsAllSides_77 : List UInt8 := 46 :: t_Ru_endsAllSides_78
abbrev t_Ru_endsAllSides_75 : List UInt8 := 21 :: 4 :: t_Ru_endsAllSides_77
abbrev t_Ru_endsAllSides_72 : List UInt8 := 180 :: 0 :: 29 :: t_Ru_endsAllSides_75
abbrev t_Ru_endsAllSides_71 : List UInt8 := 42 :: t_Ru_endsAllSides_72
abbrev t_Ru_endsAllSides_70 : List UInt8 := 172 :: t_Ru_endsAllSides_71
abbrev t_Ru_endsAllSides_69 : List UInt8 := 3 :: t_Ru_endsAllSides_70
abbrev t_Ru_endsAllSides_66 : List UInt8 := 153 :: 0 :: 5 :: t_Ru_endsAllSides_69
abbrev t_Ru_endsAllSides_63 : List UInt8 := 182 :: 0 :: 103 :: t_Ru_endsAllSides_66
abbrev t_Ru_endsAllSides_62 : List UInt8 := 42 :: t_Ru_endsAllSides_63
abbrev t_Ru_endsAllSides_61 : List UInt8 := 62 :: t_Ru_endsAllSides_62
abbrev t_Ru_endsAllSides_60 : List UInt8 := 3 :: t_Ru_endsAllSides_61
abbrev t_Ru_endsAllSides_57 : List UInt8 := 167 :: 0 :: 5 :: t_Ru_endsAllSides_60
abbrev t_Ru_endsAllSides_56 : List UInt8 := 79 :: t_Ru_endsAllSides_57
abbrev t_Ru_endsAllSides_55 : List UInt8 := 5 :: t_Ru_endsAllSides_56
abbrev t_Ru_endsAllSides_53 : List UInt8 := 21 :: 4 :: t_Ru_endsAllSides_55
abbrev t_Ru_endsAllSides_50 : List UInt8 := 180 :: 0 :: 32 :: t_Ru_endsAllSides_53
abbrev t_Ru_endsAllSides_49 : List UInt8 := 42 :: t_Ru_endsAllSides_50
abbrev t_Ru_endsAllSides_46 : List UInt8 := 153 :: 0 :: 14 :: t_Ru_endsAllSides_49
abbrev t_Ru_endsAllSides_43 : List UInt8 := 182 :: 0 :: 107 :: t_Ru_endsAllSides_46
abbrev t_Ru_endsAllSides_42 : List UInt8 := 96 :: t_Ru_endsAllSides_43
abbrev t_Ru_endsAllSides_41 : List UInt8 := 4 :: t_Ru_endsAllSides_42
abbrev t_Ru_endsAllSides_40 : List UInt8 := 28 :: t_Ru_endsAllSides_41
abbrev t_Ru_endsAllSides_38 : List UInt8 := 21 :: 4 :: t_Ru_endsAllSides_40
abbrev t_Ru_endsAllSides_37 : List UInt8 := 42 :: t_Ru_endsAllSides_38
abbrev t_Ru_endsAllSides_34 : List UInt8 := 159 :: 0 :: 28 :: t_Ru_endsAllSides_37
abbrev t_Ru_endsAllSides_33 : List UInt8 := 5 :: t_Ru_endsAllSides_34
abbrev t_Ru_endsAllSides_32 : List UInt8 := 46 :: t_Ru_endsAllSides_33
abbrev t_Ru_endsAllSides_30 : List UInt8 := 21 :: 4 :: t_Ru_endsAllSides_32
abbrev t_Ru_endsAllSides_27 : List UInt8 := 180 :: 0 :: 32 :: t_Ru_endsAllSides_30
abbrev t_Ru_endsAllSides_26 : List UInt8 := 42 :: t_Ru_endsAllSides_27
abbrev t_Ru_endsAllSides_23 : List UInt8 := 155 :: 0 :: 63 :: t_Ru_endsAllSides_26
abbrev t_Ru_endsAllSides_21 : List UInt8 := 21 :: 4 :: t_Ru_endsAllSides_23
abbrev t_Ru_endsAllSides_18 : List UInt8 := 163 :: 0 :: 68 :: t_Ru_endsAllSides_21
abbrev t_Ru_endsAllSides_15 : List UInt8 := 17 :: 1 :: 244 :: t_Ru_endsAllSides_18
abbrev t_Ru_endsAllSides_13 : List UInt8 := 21 :: 5 :: t_Ru_endsAllSides_15
abbrev t_Ru_endsAllSides_11 : List UInt8 := 54 :: 5 :: t_Ru_endsAllSides_13
abbrev t_Ru_endsAllSides_10 : List UInt8 := 3 :: t_Ru_endsAllSides_11
abbrev t_Ru_endsAllSides_8 : List UInt8 := 54 :: 4 :: t_Ru_endsAllSides_10
abbrev t_Ru_endsAllSides_7 : List UInt8 := 46 :: t_Ru_endsAllSides_8
abbrev t_Ru_endsAllSides_6 : List UInt8 := 27 :: t_Ru_endsAllSides_7
abbrev t_Ru_endsAllSides_3 : List UInt8 := 180 :: 0 :: 26 :: t_Ru_endsAllSides_6
abbrev t_Ru_endsAllSides_2 : List UInt8 := 42 :: t_Ru_endsAllSides_3
abbrev t_Ru_endsAllSides_1 : List UInt8 := 62 :: t_Ru_endsAllSides_2
abbrev t_Ru_endsAllSides_0 : List UInt8 := 4 :: t_Ru_endsAllSides_1
theorem a_Ru_endsAllSides_0 : dk_at b_Ru_endsAllSides 0 t_Ru_endsAllSides_0 := dk_start (by decide +kernel)
theorem a_Ru_endsAllSides_1 : dk_at b_Ru_endsAllSides 1 t_Ru_endsAllSides_1 := dk_go 1 a_Ru_endsAllSides_0 rfl
theorem a_Ru_endsAllSides_2 : dk_at b_Ru_endsAllSides 2 t_Ru_endsAllSides_2 := dk_go 1 a_Ru_endsAllSides_1 rfl
theorem a_Ru_endsAllSides_3 : dk_at b_Ru_endsAllSides 3 t_Ru_endsAllSides_3 := dk_go 1 a_Ru_endsAllSides_2 rfl
theorem a_Ru_endsAllSides_6 : dk_at b_Ru_endsAllSides 6 t_Ru_endsAllSides_6 := dk_go 3 a_Ru_endsAllSides_3 rfl
theorem a_Ru_endsAllSides_7 : dk_at b_Ru_endsAllSides 7 t_Ru_endsAllSides_7 := dk_go 1 a_Ru_endsAllSides_6 rfl
theorem a_Ru_endsAllSides_8 : dk_at b_Ru_endsAllSides 8 t_Ru_endsAllSides_8 := dk_go 1 a_Ru_endsAllSides_7 rfl
theorem a_Ru_endsAllSides_10 : dk_at b_Ru_endsAllSides 10 t_Ru_endsAllSides_10 := dk_go 2 a_Ru_endsAllSides_8 rfl
theorem a_Ru_endsAllSides_11 : dk_at b_Ru_endsAllSides 11 t_Ru_endsAllSides_11 := dk_go 1 a_Ru_endsAllSides_10 rfl
theorem a_Ru_endsAllSides_13 : dk_at b_Ru_endsAllSides 13 t_Ru_endsAllSides_13 := dk_go 2 a_Ru_endsAllSides_11 rfl
theorem a_Ru_endsAllSides_15 : dk_at b_Ru_endsAllSides 15 t_Ru_endsAllSides_15 := dk_go 2 a_Ru_endsAllSides_13 rfl
theorem a_Ru_endsAllSides_18 : dk_at b_Ru_endsAllSides 18 t_Ru_endsAllSides_18 := dk_go 3 a_Ru_endsAllSides_15 rfl
theorem a_Ru_endsAllSides_21 : dk_at b_Ru_endsAllSides 21 t_Ru_endsAllSides_21 := dk_go 3 a_Ru_endsAllSides_18 rfl
theorem a_Ru_endsAllSides_23 : dk_at b_Ru_endsAllSides 23 t_Ru_endsAllSides_23 := dk_go 2 a_Ru_endsAllSides_21 rfl
theorem a_Ru_endsAllSides_26 : dk_at b_Ru_endsAllSides 26 t_Ru_endsAllSides_26 := dk_go 3 a_Ru_endsAllSides_23 rfl
theorem a_Ru_endsAllSides_27 : dk_at b_Ru_endsAllSides 27 t_Ru_endsAllSides_27 := dk_go 1 a_Ru_endsAllSides_26 rfl
theorem a_Ru_endsAllSides_30 : dk_at b_Ru_endsAllSides 30 t_Ru_endsAllSides_30 := dk_go 3 a_Ru_endsAllSides_27 rfl
theorem a_Ru_endsAllSides_32 : dk_at b_Ru_endsAllSides 32 t_Ru_endsAllSides_32 := dk_go 2 a_Ru_endsAllSides_30 rfl
theorem a_Ru_endsAllSides_33 : dk_at b_Ru_endsAllSides 33 t_Ru_endsAllSides_33 := dk_go 1 a_Ru_endsAllSides_32 rfl
theorem a_Ru_endsAllSides_34 : dk_at b_Ru_endsAllSides 34 t_Ru_endsAllSides_34 := dk_go 1 a_Ru_endsAllSides_33 rfl
theorem a_Ru_endsAllSides_37 : dk_at b_Ru_endsAllSides 37 t_Ru_endsAllSides_37 := dk_go 3 a_Ru_endsAllSides_34 rfl
theorem a_Ru_endsAllSides_38 : dk_at b_Ru_endsAllSides 38 t_Ru_endsAllSides_38 := dk_go 1 a_Ru_endsAllSides_37 rfl
theorem a_Ru_endsAllSides_40 : dk_at b_Ru_endsAllSides 40 t_Ru_endsAllSides_40 := dk_go 2 a_Ru_endsAllSides_38 rfl
theorem a_Ru_endsAllSides_41 : dk_at b_Ru_endsAllSides 41 t_Ru_endsAllSides_41 := dk_go 1 a_Ru_endsAllSides_40 rfl
theorem a_Ru_endsAllSides_42 : dk_at b_Ru_endsAllSides 42 t_Ru_endsAllSides_42 := dk_go 1 a_Ru_endsAllSides_41 rfl
theorem a_Ru_endsAllSides_43 : dk_at b_Ru_endsAllSides 43 t_Ru_endsAllSides_43 := dk_go 1 a_Ru_endsAllSides_42 rfl
theorem a_Ru_endsAllSides_46 : dk_at b_Ru_endsAllSides 46 t_Ru_endsAllSides_46 := dk_go 3 a_Ru_endsAllSides_43 rfl
theorem a_Ru_endsAllSides_49 : dk_at b_Ru_endsAllSides 49 t_Ru_endsAllSides_49 := dk_go 3 a_Ru_endsAllSides_46 rfl
theorem a_Ru_endsAllSides_50 : dk_at b_Ru_endsAllSides 50 t_Ru_endsAllSides_50 := dk_go 1 a_Ru_endsAllSides_49 rfl
theorem a_Ru_endsAllSides_53 : dk_at b_Ru_endsAllSides 53 t_Ru_endsAllSides_53 := dk_go 3 a_Ru_endsAllSides_50 rfl
theorem a_Ru_endsAllSides_55 : dk_at b_Ru_endsAllSides 55 t_Ru_endsAllSides_55 := dk_go 2 a_Ru_endsAllSides_53 rfl
theorem a_Ru_endsAllSides_56 : dk_at b_Ru_endsAllSides 56 t_Ru_endsAllSides_56 := dk_go 1 a_Ru_endsAllSides_55 rfl
theorem a_Ru_endsAllSides_57 : dk_at b_Ru_endsAllSides 57 t_Ru_endsAllSides_57 := dk_go 1 a_Ru_endsAllSides_56 rfl
theorem a_Ru_endsAllSides_60 : dk_at b_Ru_endsAllSides 60 t_Ru_endsAllSides_60 := dk_go 3 a_Ru_endsAllSides_57 rfl
theorem a_Ru_endsAllSides_61 : dk_at b_Ru_endsAllSides 61 t_Ru_endsAllSides_61 := dk_go 1 a_Ru_endsAllSides_60 rfl
theorem a_Ru_endsAllSides_62 : dk_at b_Ru_endsAllSides 62 t_Ru_endsAllSides_62 := dk_go 1 a_Ru_endsAllSides_61 rfl
theorem a_Ru_endsAllSides_63 : dk_at b_Ru_endsAllSides 63 t_Ru_endsAllSides_63 := dk_go 1 a_Ru_endsAllSides_62 rfl
theorem a_Ru_endsAllSides_66 : dk_at b_Ru_endsAllSides 66 t_Ru_endsAllSides_66 := dk_go 3 a_Ru_endsAllSides_63 rfl
theorem a_Ru_endsAllSides_69 : dk_at b_Ru_endsAllSides 69 t_Ru_endsAllSides_69 := dk_go 3 a_Ru_endsAllSides_66 rfl
theorem a_Ru_endsAllSides_70 : dk_at b_Ru_endsAllSides 70 t_Ru_endsAllSides_70 := dk_go 1 a_Ru_endsAllSides_69 rfl
theorem a_Ru_endsAllSides_71 : dk_at b_Ru_endsAllSides 71 t_Ru_endsAllSides_71 := dk_go 1 a_Ru_endsAllSides_70 rfl
theorem a_Ru_endsAllSides_72 : dk_at b_Ru_endsAllSides 72 t_Ru_endsAllSides_72 := dk_go 1 a_Ru_endsAllSides_71 rfl
theorem a_Ru_endsAllSides_75 : dk_at b_Ru_endsAllSides 75 t_Ru_endsAllSides_75 := dk_go 3 a_Ru_endsAllSides_72 rfl
theorem a_Ru_endsAllSides_77 : dk_at b_Ru_endsAllSides 77 t_Ru_endsAllSides_77 := dk_go 2 a_Ru_endsAllSides_75 rfl
theorem a_Ru_endsAllSides_78 : dk_at b_Ru_endsAllSides 78 t_Ru_endsAllSides_78 := dk_go 1 a_Ru_endsAllSides_77 rfl
theorem a_Ru_endsAllSides_80 : dk_at b_Ru_endsAllSides 80 t_Ru_endsAllSides_80 := dk_go 2 a_Ru_endsAllSides_78 rfl
theorem a_Ru_endsAllSides_83 : dk_at b_Ru_endsAllSides 83 t_Ru_endsAllSides_83 := dk_go 3 a_Ru_endsAllSides_80 rfl
theorem a_Ru_endsAllSides_86 : dk_at b_Ru_endsAllSides 86 t_Ru_endsAllSides_86 := dk_go 3 a_Ru_endsAllSides_83 rfl
theorem a_Ru_endsAllSides_87 : dk_at b_Ru_endsAllSides 87 t_Ru_endsAllSides_87 := dk_go 1 a_Ru_endsAllSides_86 rfl
theorem d_Ru_endsAllSides_0 : decode b_Ru_endsAllSides 0 = .ok (.iconst 1, 1) := dk_0 a_Ru_endsAllSides_0 (dko_4 _)
theorem d_Ru_endsAllSides_1 : decode b_Ru_endsAllSides 1 = .ok (.istore_n 3, 1) := dk_0 a_Ru_endsAllSides_1 (dko_62 _)
theorem d_Ru_endsAllSides_2 : decode b_Ru_endsAllSides 2 = .ok (.aload_n 0, 1) := dk_0 a_Ru_endsAllSides_2 (dko_42 _)
theorem d_Ru_endsAllSides_3 : decode b_Ru_endsAllSides 3 = .ok (.getfield 26, 3) := dk_U2 a_Ru_endsAllSides_3 (dko_180 _) rfl
theorem d_Ru_endsAllSides_6 : decode b_Ru_endsAllSides 6 = .ok (.iload_n 1, 1) := dk_0 a_Ru_endsAllSides_6 (dko_27 _)
theorem d_Ru_endsAllSides_7 : decode b_Ru_endsAllSides 7 = .ok (.iaload, 1) := dk_0 a_Ru_endsAllSides_7 (dko_46 _)
theorem d_Ru_endsAllSides_8 : decode b_Ru_endsAllSides 8 = .ok (.istore 4, 2) := dk_U1 a_Ru_endsAllSides_8 (dko_54 _) rfl
theorem d_Ru_endsAllSides_10 : decode b_Ru_endsAllSides 10 = .ok (.iconst 0, 1) := dk_0 a_Ru_endsAllSides_10 (dko_3 _)
theorem d_Ru_endsAllSides_11 : decode b_Ru_endsAllSides 11 = .ok (.istore 5, 2) := dk_U1 a_Ru_endsAllSides_11 (dko_54 _) rfl
theorem d_Ru_endsAllSides_13 : decode b_Ru_endsAllSides 13 = .ok (.iload 5, 2) := dk_U1 a_Ru_endsAllSides_13 (dko_21 _) rfl
theorem d_Ru_endsAllSides_15 : decode b_Ru_endsAllSides 15 = .ok (.sipush 500, 3) := dk_S2 a_Ru_endsAllSides_15 (dko_17 _) (by decide +kernel)
theorem d_Ru_endsAllSides_18 : decode b_Ru_endsAllSides 18 = .ok (.if_icmp .gt 68, 3) := dk_S2 a_Ru_endsAllSides_18 (dko_163 _) (by decide +kernel)
theorem d_Ru_endsAllSides_21 : decode b_Ru_endsAllSides 21 = .ok (.iload 4, 2) := dk_U1 a_Ru_endsAllSides_21 (dko_21 _) rfl
theorem d_Ru_endsAllSides_23 : decode b_Ru_endsAllSides 23 = .ok (.ifCond .lt 63, 3) := dk_S2 a_Ru_endsAllSides_23 (dko_155 _) (by decide +kernel)
theorem d_Ru_endsAllSides_26 : decode b_Ru_endsAllSides 26 = .ok (.aload_n 0, 1) := dk_0 a_Ru_endsAllSides_26 (dko_42 _)
theorem d_Ru_endsAllSides_27 : decode b_Ru_endsAllSides 27 = .ok (.getfield 32, 3) := dk_U2 a_Ru_endsAllSides_27 (dko_180 _) rfl
theorem d_Ru_endsAllSides_30 : decode b_Ru_endsAllSides 30 = .ok (.iload 4, 2) := dk_U1 a_Ru_endsAllSides_30 (dko_21 _) rfl
theorem d_Ru_endsAllSides_32 : decode b_Ru_endsAllSides 32 = .ok (.iaload, 1) := dk_0 a_Ru_endsAllSides_32 (dko_46 _)
theorem d_Ru_endsAllSides_33 : decode b_Ru_endsAllSides 33 = .ok (.iconst 2, 1) := dk_0 a_Ru_endsAllSides_33 (dko_5 _)
theorem d_Ru_endsAllSides_34 : decode b_Ru_endsAllSides 34 = .ok (.if_icmp .eq 28, 3) := dk_S2 a_Ru_endsAllSides_34 (dko_159 _) (by decide +kernel)
theorem d_Ru_endsAllSides_37 : decode b_Ru_endsAllSides 37 = .ok (.aload_n 0, 1) := dk_0 a_Ru_endsAllSides_37 (dko_42 _)
theorem d_Ru_endsAllSides_38 : decode b_Ru_endsAllSides 38 = .ok (.iload 4, 2) := dk_U1 a_Ru_endsAllSides_38 (dko_21 _) rfl
theorem d_Ru_endsAllSides_40 : decode b_Ru_endsAllSides 40 = .ok (.iload_n 2, 1) := dk_0 a_Ru_endsAllSides_40 (dko_28 _)
theorem d_Ru_endsAllSides_41 : decode b_Ru_endsAllSides 41 = .ok (.iconst 1, 1) := dk_0 a_Ru_endsAllSides_41 (dko_4 _)
theorem d_Ru_endsAllSides_42 : decode b_Ru_endsAllSides 42 = .ok (.iadd, 1) := dk_0 a_Ru_endsAllSides_42 (dko_96 _)
theorem d_Ru_endsAllSides_43 : decode b_Ru_endsAllSides 43 = .ok (.invokevirtual 107, 3) := dk_U2 a_Ru_endsAllSides_43 (dko_182 _) rfl
theorem d_Ru_endsAllSides_46 : decode b_Ru_endsAllSides 46 = .ok (.ifCond .eq 14, 3) := dk_S2 a_Ru_endsAllSides_46 (dko_153 _) (by decide +kernel)
theorem d_Ru_endsAllSides_49 : decode b_Ru_endsAllSides 49 = .ok (.aload_n 0, 1) := dk_0 a_Ru_endsAllSides_49 (dko_42 _)
theorem d_Ru_endsAllSides_50 : decode b_Ru_endsAllSides 50 = .ok (.getfield 32, 3) := dk_U2 a_Ru_endsAllSides_50 (dko_180 _) rfl
theorem d_Ru_endsAllSides_53 : decode b_Ru_endsAllSides 53 = .ok (.iload 4, 2) := dk_U1 a_Ru_endsAllSides_53 (dko_21 _) rfl
theorem d_Ru_endsAllSides_55 : decode b_Ru_endsAllSides 55 = .ok (.iconst 2, 1) := dk_0 a_Ru_endsAllSides_55 (dko_5 _)
theorem d_Ru_endsAllSides_56 : decode b_Ru_endsAllSides 56 = .ok (.iastore, 1) := dk_0 a_Ru_endsAllSides_56 (dko_79 _)
theorem d_Ru_endsAllSides_57 : decode b_Ru_endsAllSides 57 = .ok (.goto 5, 3) := dk_S2 a_Ru_endsAllSides_57 (dko_167 _) (by decide +kernel)
theorem d_Ru_endsAllSides_60 : decode b_Ru_endsAllSides 60 = .ok (.iconst 0, 1) := dk_0 a_Ru_endsAllSides_60 (dko_3 _)
theorem d_Ru_endsAllSides_61 : decode b_Ru_endsAllSides 61 = .ok (.istore_n 3, 1) := dk_0 a_Ru_endsAllSides_61 (dko_62 _)
theorem d_Ru_endsAllSides_62 : decode b_Ru_endsAllSides 62 = .ok (.aload_n 0, 1) := dk_0 a_Ru_endsAllSides_62 (dko_42 _)
theorem d_Ru_endsAllSides_63 : decode b_Ru_endsAllSides 63 = .ok (.invokevirtual 103, 3) := dk_U2 a_Ru_endsAllSides_63 (dko_182 _) rfl
theorem d_Ru_endsAllSides_66 : decode b_Ru_endsAllSides 66 = .ok (.ifCond .eq 5, 3) := dk_S2 a_Ru_endsAllSides_66 (dko_153 _) (by decide +kernel)
theorem d_Ru_endsAllSides_69 : decode b_Ru_endsAllSides 69 = .ok (.iconst 0, 1) := dk_0 a_Ru_endsAllSides_69 (dko_3 _)
theorem d_Ru_endsAllSides_70 : decode b_Ru_endsAllSides 70 = .ok (.ireturn, 1) := dk_0 a_Ru_endsAllSides_70 (dko_172 _)
theorem d_Ru_endsAllSides_71 : decode b_Ru_endsAllSides 71 = .ok (.aload_n 0, 1) := dk_0 a_Ru_endsAllSides_71 (dko_42 _)
theorem d_Ru_endsAllSides_72 : decode b_Ru_endsAllSides 72 = .ok (.getfield 29, 3) := dk_U2 a_Ru_endsAllSides_72 (dko_180 _) rfl
theorem d_Ru_endsAllSides_75 : decode b_Ru_endsAllSides 75 = .ok (.iload 4, 2) := dk_U1 a_Ru_endsAllSides_75 (dko_21 _) rfl
theorem d_Ru_endsAllSides_77 : decode b_Ru_endsAllSides 77 = .ok (.iaload, 1) := dk_0 a_Ru_endsAllSides_77 (dko_46 _)
theorem d_Ru_endsAllSides_78 : decode b_Ru_endsAllSides 78 = .ok (.istore 4, 2) := dk_U1 a_Ru_endsAllSides_78 (dko_54 _) rfl
theorem d_Ru_endsAllSides_80 : decode b_Ru_endsAllSides 80 = .ok (.iinc 5 1, 3) := dk_US a_Ru_endsAllSides_80 (dko_132 _) (by decide +kernel)
theorem d_Ru_endsAllSides_83 : decode b_Ru_endsAllSides 83 = .ok (.goto (-70), 3) := dk_S2 a_Ru_endsAllSides_83 (dko_167 _) (by decide +kernel)
theorem d_Ru_endsAllSides_86 : decode b_Ru_endsAllSides 86 = .ok (.iload_n 3, 1) := dk_0 a_Ru_endsAllSides_86 (dko_29 _)
theorem d_Ru_endsAllSides_87 : decode b_Ru_endsAllSides 87 = .ok (.ireturn, 1) := dk_0 a_Ru_endsAllSides_87 (dko_172 _)
set_option maxHeartbeats 4000000 in
set_option maxRecDepth 100000 in
theorem ok_Ru_endsAllSides (pc : Nat) : OpS mt mi_Ru_endsAllSides pc (cs_Ru_endsAllSides pc) := (os_n (os_n (os_n (os_n (os_n (os_l (so_iconst d_Ru_endsAllSides_0 (by decide))) (os_n (os_l (so_istore_n d_Ru_endsAllSides_1 rfl (by decide))) (os_l (so_aload_n d_Ru_endsAllSides_2 rfl)))) (os_n (os_l (so_get (C := R_Ru) (T := F_Ru) (N := 21) (j := 7) in_Ru rfl (by decide) mw_520 d_Ru_endsAllSides_3)) (os_n (os_l (so_iload_n d_Ru_endsAllSides_6 rfl)) (os_l (so_iaload d_Ru_endsAllSides_7))))) (os_n (os_n (os_l (so_istore d_Ru_endsAllSides_8 (by decide))) (os_n (os_l (so_iconst d_Ru_endsAllSides_10 (by decide))) (os_l (so_istore d_Ru_endsAllSides_11 (by decide))))) (os_n (os_l (so_iload d_Ru_endsAllSides_13)) (os_n (os_l (so_sipush d_Ru_endsAllSides_15 (by decide))) (os_l (so_icgt d_Ru_endsAllSides_18 (by decide))))))) (os_n (os_n (os_n (os_l (so_iload d_Ru_endsAllSides_21)) (os_n (os_l (so_iflt d_Ru_endsAllSides_23 (by decide))) (os_l (so_aload_n d_Ru_endsAllSides_26 rfl)))) (os_n (os_l (so_get (C := R_Ru) (T := F_Ru) (N := 21) (j := 9) in_Ru rfl (by decide) mw_522 d_Ru_endsAllSides_27)) (os_n (os_l (so_iload d_Ru_endsAllSides_30)) (os_l (so_iaload d_Ru_endsAllSides_32))))) (os_n (os_n (os_l (so_iconst d_Ru_endsAllSides_33 (by decide))) (os_n (os_l (so_iceq d_Ru_endsAllSides_34 (by decide))) (os_l (so_aload_n d_Ru_endsAllSides_37 rfl)))) (os_n (os_l (so_iload d_Ru_endsAllSides_38)) (os_n (os_l (so_iload_n d_Ru_endsAllSides_40 rfl)) (os_l (so_iconst d_Ru_endsAllSides_41 (by decide)))))))) (os_n (os_n (os_n (os_n (os_l (so_iadd d_Ru_endsAllSides_42)) (os_n (os_l (so_callV (iv := mi_Ru_goOn) rfl rfl rfl mw_1374 mw_1376 sl_70 mw_11 mw_1377 ⟨by decide +kernel, by decide +kernel, by decide +kernel⟩ (by decide) d_Ru_endsAllSides_43)) (os_l (so_ifeq d_Ru_endsAllSides_46 (by decide))))) (os_n (os_l (so_aload_n d_Ru_endsAllSides_49 rfl)) (os_n (os_l (so_get (C := R_Ru) (T := F_Ru) (N := 21) (j := 9) in_Ru rfl (by decide) mw_522 d_Ru_endsAllSides_50)) (os_l (so_iload d_Ru_endsAllSides_53))))) (os_n (os_n (os_l (so_iconst d_Ru_endsAllSides_55 (by decide))) (os_n (os_l (so_iastore d_Ru_endsAllSides_56)) (os_l (so_goto d_Ru_endsAllSides_57 (by decide))))) (os_n (os_l (so_iconst d_Ru_endsAllSides_60 (by decide))) (os_n (os_l (so_istore_n d_Ru_endsAllSides_61 rfl (by decide))) (os_l (so_aload_n d_Ru_endsAllSides_62 rfl)))))) (os_n (os_n (os_n (os_l (so_callV (iv := mi_Ru_isOver) rfl rfl rfl mw_1349 mw_1351 sl_65 mw_11 mw_1352 ⟨by decide +kernel, by decide +kernel, by decide +kernel⟩ (by decide) d_Ru_endsAllSides_63)) (os_n (os_l (so_ifeq d_Ru_endsAllSides_66 (by decide))) (os_l (so_iconst d_Ru_endsAllSides_69 (by decide))))) (os_n (os_l (so_zreturn rfl d_Ru_endsAllSides_70)) (os_n (os_l (so_aload_n d_Ru_endsAllSides_71 rfl)) (os_l (so_get (C := R_Ru) (T := F_Ru) (N := 21) (j := 8) in_Ru rfl (by decide) mw_521 d_Ru_endsAllSides_72))))) (os_n (os_n (os_l (so_iload d_Ru_endsAllSides_75)) (os_n (os_l (so_iaload d_Ru_endsAllSides_77)) (os_l (so_istore d_Ru_endsAllSides_78 (by decide))))) (os_n (os_n (os_l (so_iinc d_Ru_endsAllSides_80 (by decide) (by decide))) (os_l (so_goto d_Ru_endsAllSides_83 (by decide)))) (os_n (os_l (so_iload_n d_Ru_endsAllSides_86 rfl)) (os_l (so_zreturn rfl d_Ru_endsAllSides_87))))))))
abbrev t_Ru_endsRounds_82 : List UInt8 := 172 :: []
abbrev t_Ru_endsRounds_81 : List UInt8 := 3 :: t_Ru_endsRounds_82
abbrev t_Ru_endsRounds_78 : List UInt8 := 167 :: 0 :: 4 :: t_Ru_endsRounds_81
abbrev t_Ru_endsRounds_77 : List UInt8 := 4 :: t_Ru_endsRounds_78
abbrev t_Ru_endsRounds_74 : List UInt8 := 157 :: 0 :: 7 :: t_Ru_endsRounds_77
abbrev t_Ru_endsRounds_73 : List UInt8 := 148 :: t_Ru_endsRounds_74
abbrev t_Ru_endsRounds_72 : List UInt8 := 9 :: t_Ru_endsRounds_73
abbrev t_Ru_endsRounds_71 : List UInt8 := 47 :: t_Ru_endsRounds_72
abbrev t_Ru_endsRounds_70 : List UInt8 := 27 :: t_Ru_endsRounds_71
abbrev t_Ru_endsRounds_67 : List UInt8 := 180 :: 0 :: 38 :: t_Ru_endsRounds_70
abbrev t_Ru_endsRounds_66 : List UInt8 := 42 :: t_Ru_endsRounds_67
abbrev t_Ru_endsRounds_63 : List UInt8 := 167 :: 255 :: 195 :: t_Ru_endsRounds_66
abbrev t_Ru_endsRounds_60 : List UInt8 := 132 :: 3 :: 1 :: t_Ru_endsRounds_63
abbrev t_Ru_endsRounds_59 : List UInt8 := 79 :: t_Ru_endsRounds_60
abbrev t_Ru_endsRounds_58 : List UInt8 := 3 :: t_Ru_endsRounds_59
abbrev t_Ru_endsRounds_57 : List UInt8 := 46 :: t_Ru_endsRounds_58
abbrev t_Ru_endsRounds_56 : List UInt8 := 27 :: t_Ru_endsRounds_57
abbrev t_Ru_endsRounds_53 : List UInt8 := 180 :: 0 :: 26 :: t_Ru_endsRounds_56
abbrev t_Ru_endsRounds_52 : List UInt8 := 42 :: t_Ru_endsRounds_53
abbrev t_Ru_endsRounds_49 : List UInt8 := 180 :: 0 :: 32 :: t_Ru_endsRounds_52
abbrev t_Ru_endsRounds_48 : List UInt8 := 42 :: t_Ru_endsRounds_49
abbrev t_Ru_endsRounds_47 : List UInt8 := 80 :: t_Ru_endsRounds_48
abbrev t_Ru_endsRounds_46 : List UInt8 := 101 :: t_Ru_endsRounds_47
abbrev t_Ru_endsRounds_45 : List UInt8 := 10 :: t_Ru_endsRounds_46
abbrev t_Ru_endsRounds_44 : List UInt8 := 47 :: t_Ru_endsRounds_45
abbrev t_Ru_endsRounds_43 : List UInt8 := 92 :: t_Ru_endsRounds_44
abbrev t_Ru_endsRounds_42 : List UInt8 := 27 :: t_Ru_endsRounds_43
abbrev t_Ru_endsRounds_39 : List UInt8 := 180 :: 0 :: 38 :: t_Ru_endsRounds_42
abbrev t_Ru_endsRounds_38 : List UInt8 := 42 :: t_Ru_endsRounds_39
abbrev t_Ru_endsRounds_37 : List UInt8 := 172 :: t_Ru_endsRounds_38
abbrev t_Ru_endsRounds_36 : List UInt8 := 3 :: t_Ru_endsRounds_37
abbrev t_Ru_endsRounds_33 : List UInt8 := 154 :: 0 :: 5 :: t_Ru_endsRounds_36
abbrev t_Ru_endsRounds_30 : List UInt8 := 182 :: 0 :: 107 :: t_Ru_endsRounds_33
abbrev t_Ru_endsRounds_29 : List UInt8 := 96 :: t_Ru_endsRounds_30
abbrev t_Ru_endsRounds_28 : List UInt8 := 4 :: t_Ru_endsRounds_29
abbrev t_Ru_endsRounds_27 : List UInt8 := 28 :: t_Ru_endsRounds_28
abbrev t_Ru_endsRounds_26 : List UInt8 := 46 :: t_Ru_endsRounds_27
abbrev t_Ru_endsRounds_25 : List UInt8 := 27 :: t_Ru_endsRounds_26
abbrev t_Ru_endsRounds_22 : List UInt8 := 180 :: 0 :: 26 :: t_Ru_endsRounds_25
abbrev t_Ru_endsRounds_21 : List UInt8 := 42 :: t_Ru_endsRounds_22
abbrev t_Ru_endsRounds_20 : List UInt8 := 42 :: t_Ru_endsRounds_21
abbrev t_Ru_endsRounds_17 : List UInt8 := 158 :: 0 :: 49 :: t_Ru_endsRounds_20
abbrev t_Ru_endsRounds_16 : List UInt8 := 148 :: t_Ru_endsRounds_17
abbrev t_Ru_endsRounds_15 : List UInt8 := 9 :: t_Ru_endsRounds_16
abbrev t_Ru_endsRounds_14 : List UInt8 := 47 :: t_Ru_endsRounds_15
abbrev t_Ru_endsRounds_13 : List UInt8 := 27 :: t_Ru_endsRounds_14
abbrev t_Ru_endsRounds_10 : List UInt8 := 180 :: 0 :: 38 :: t_Ru_endsRounds_13
abbrev t_Ru_endsRounds_9 : List UInt8 := 42 :: t_Ru_endsRounds_10
abbrev t_Ru_endsRounds_6 : List UInt8 := 163 :: 0 :: 60 :: t_Ru_endsRounds_9
abbrev t_Ru_endsRounds_3 : List UInt8 := 17 :: 3 :: 233 :: t_Ru_endsRounds_6
abbrev t_Ru_endsRounds_2 : List UInt8 := 29 :: t_Ru_endsRounds_3
abbrev t_Ru_endsRounds_1 : List UInt8 := 62 :: t_Ru_endsRounds_2
abbrev t_Ru_endsRounds_0 : List UInt8 := 3 :: t_Ru_endsRounds_1
theorem a_Ru_endsRounds_0 : dk_at b_Ru_endsRounds 0 t_Ru_endsRounds_0 := dk_start (by decide +kernel)
theorem a_Ru_endsRounds_1 : dk_at b_Ru_endsRounds 1 t_Ru_endsRounds_1 := dk_go 1 a_Ru_endsRounds_0 rfl
theorem a_Ru_endsRounds_2 : dk_at b_Ru_endsRounds 2 t_Ru_endsRounds_2 := dk_go 1 a_Ru_endsRounds_1 rfl
theorem a_Ru_endsRounds_3 : dk_at b_Ru_endsRounds 3 t_Ru_endsRounds_3 := dk_go 1 a_Ru_endsRounds_2 rfl
theorem a_Ru_endsRounds_6 : dk_at b_Ru_endsRounds 6 t_Ru_endsRounds_6 := dk_go 3 a_Ru_endsRounds_3 rfl
theorem a_Ru_endsRounds_9 : dk_at b_Ru_endsRounds 9 t_Ru_endsRounds_9 := dk_go 3 a_Ru_endsRounds_6 rfl
theorem a_Ru_endsRounds_10 : dk_at b_Ru_endsRounds 10 t_Ru_endsRounds_10 := dk_go 1 a_Ru_endsRounds_9 rfl
theorem a_Ru_endsRounds_13 : dk_at b_Ru_endsRounds 13 t_Ru_endsRounds_13 := dk_go 3 a_Ru_endsRounds_10 rfl
theorem a_Ru_endsRounds_14 : dk_at b_Ru_endsRounds 14 t_Ru_endsRounds_14 := dk_go 1 a_Ru_endsRounds_13 rfl
theorem a_Ru_endsRounds_15 : dk_at b_Ru_endsRounds 15 t_Ru_endsRounds_15 := dk_go 1 a_Ru_endsRounds_14 rfl
theorem a_Ru_endsRounds_16 : dk_at b_Ru_endsRounds 16 t_Ru_endsRounds_16 := dk_go 1 a_Ru_endsRounds_15 rfl
theorem a_Ru_endsRounds_17 : dk_at b_Ru_endsRounds 17 t_Ru_endsRounds_17 := dk_go 1 a_Ru_endsRounds_16 rfl
theorem a_Ru_endsRounds_20 : dk_at b_Ru_endsRounds 20 t_Ru_endsRounds_20 := dk_go 3 a_Ru_endsRounds_17 rfl
theorem a_Ru_endsRounds_21 : dk_at b_Ru_endsRounds 21 t_Ru_endsRounds_21 := dk_go 1 a_Ru_endsRounds_20 rfl
theorem a_Ru_endsRounds_22 : dk_at b_Ru_endsRounds 22 t_Ru_endsRounds_22 := dk_go 1 a_Ru_endsRounds_21 rfl
theorem a_Ru_endsRounds_25 : dk_at b_Ru_endsRounds 25 t_Ru_endsRounds_25 := dk_go 3 a_Ru_endsRounds_22 rfl
theorem a_Ru_endsRounds_26 : dk_at b_Ru_endsRounds 26 t_Ru_endsRounds_26 := dk_go 1 a_Ru_endsRounds_25 rfl
theorem a_Ru_endsRounds_27 : dk_at b_Ru_endsRounds 27 t_Ru_endsRounds_27 := dk_go 1 a_Ru_endsRounds_26 rfl
theorem a_Ru_endsRounds_28 : dk_at b_Ru_endsRounds 28 t_Ru_endsRounds_28 := dk_go 1 a_Ru_endsRounds_27 rfl
theorem a_Ru_endsRounds_29 : dk_at b_Ru_endsRounds 29 t_Ru_endsRounds_29 := dk_go 1 a_Ru_endsRounds_28 rfl
theorem a_Ru_endsRounds_30 : dk_at b_Ru_endsRounds 30 t_Ru_endsRounds_30 := dk_go 1 a_Ru_endsRounds_29 rfl
theorem a_Ru_endsRounds_33 : dk_at b_Ru_endsRounds 33 t_Ru_endsRounds_33 := dk_go 3 a_Ru_endsRounds_30 rfl
theorem a_Ru_endsRounds_36 : dk_at b_Ru_endsRounds 36 t_Ru_endsRounds_36 := dk_go 3 a_Ru_endsRounds_33 rfl
theorem a_Ru_endsRounds_37 : dk_at b_Ru_endsRounds 37 t_Ru_endsRounds_37 := dk_go 1 a_Ru_endsRounds_36 rfl
theorem a_Ru_endsRounds_38 : dk_at b_Ru_endsRounds 38 t_Ru_endsRounds_38 := dk_go 1 a_Ru_endsRounds_37 rfl
theorem a_Ru_endsRounds_39 : dk_at b_Ru_endsRounds 39 t_Ru_endsRounds_39 := dk_go 1 a_Ru_endsRounds_38 rfl
theorem a_Ru_endsRounds_42 : dk_at b_Ru_endsRounds 42 t_Ru_endsRounds_42 := dk_go 3 a_Ru_endsRounds_39 rfl
theorem a_Ru_endsRounds_43 : dk_at b_Ru_endsRounds 43 t_Ru_endsRounds_43 := dk_go 1 a_Ru_endsRounds_42 rfl
theorem a_Ru_endsRounds_44 : dk_at b_Ru_endsRounds 44 t_Ru_endsRounds_44 := dk_go 1 a_Ru_endsRounds_43 rfl
theorem a_Ru_endsRounds_45 : dk_at b_Ru_endsRounds 45 t_Ru_endsRounds_45 := dk_go 1 a_Ru_endsRounds_44 rfl
theorem a_Ru_endsRounds_46 : dk_at b_Ru_endsRounds 46 t_Ru_endsRounds_46 := dk_go 1 a_Ru_endsRounds_45 rfl
theorem a_Ru_endsRounds_47 : dk_at b_Ru_endsRounds 47 t_Ru_endsRounds_47 := dk_go 1 a_Ru_endsRounds_46 rfl
theorem a_Ru_endsRounds_48 : dk_at b_Ru_endsRounds 48 t_Ru_endsRounds_48 := dk_go 1 a_Ru_endsRounds_47 rfl
theorem a_Ru_endsRounds_49 : dk_at b_Ru_endsRounds 49 t_Ru_endsRounds_49 := dk_go 1 a_Ru_endsRounds_48 rfl
theorem a_Ru_endsRounds_52 : dk_at b_Ru_endsRounds 52 t_Ru_endsRounds_52 := dk_go 3 a_Ru_endsRounds_49 rfl
theorem a_Ru_endsRounds_53 : dk_at b_Ru_endsRounds 53 t_Ru_endsRounds_53 := dk_go 1 a_Ru_endsRounds_52 rfl
theorem a_Ru_endsRounds_56 : dk_at b_Ru_endsRounds 56 t_Ru_endsRounds_56 := dk_go 3 a_Ru_endsRounds_53 rfl
theorem a_Ru_endsRounds_57 : dk_at b_Ru_endsRounds 57 t_Ru_endsRounds_57 := dk_go 1 a_Ru_endsRounds_56 rfl
theorem a_Ru_endsRounds_58 : dk_at b_Ru_endsRounds 58 t_Ru_endsRounds_58 := dk_go 1 a_Ru_endsRounds_57 rfl
theorem a_Ru_endsRounds_59 : dk_at b_Ru_endsRounds 59 t_Ru_endsRounds_59 := dk_go 1 a_Ru_endsRounds_58 rfl
theorem a_Ru_endsRounds_60 : dk_at b_Ru_endsRounds 60 t_Ru_endsRounds_60 := dk_go 1 a_Ru_endsRounds_59 rfl
theorem a_Ru_endsRounds_63 : dk_at b_Ru_endsRounds 63 t_Ru_endsRounds_63 := dk_go 3 a_Ru_endsRounds_60 rfl
theorem a_Ru_endsRounds_66 : dk_at b_Ru_endsRounds 66 t_Ru_endsRounds_66 := dk_go 3 a_Ru_endsRounds_63 rfl
theorem a_Ru_endsRounds_67 : dk_at b_Ru_endsRounds 67 t_Ru_endsRounds_67 := dk_go 1 a_Ru_endsRounds_66 rfl
theorem a_Ru_endsRounds_70 : dk_at b_Ru_endsRounds 70 t_Ru_endsRounds_70 := dk_go 3 a_Ru_endsRounds_67 rfl
theorem a_Ru_endsRounds_71 : dk_at b_Ru_endsRounds 71 t_Ru_endsRounds_71 := dk_go 1 a_Ru_endsRounds_70 rfl
theorem a_Ru_endsRounds_72 : dk_at b_Ru_endsRounds 72 t_Ru_endsRounds_72 := dk_go 1 a_Ru_endsRounds_71 rfl
theorem a_Ru_endsRounds_73 : dk_at b_Ru_endsRounds 73 t_Ru_endsRounds_73 := dk_go 1 a_Ru_endsRounds_72 rfl
theorem a_Ru_endsRounds_74 : dk_at b_Ru_endsRounds 74 t_Ru_endsRounds_74 := dk_go 1 a_Ru_endsRounds_73 rfl
theorem a_Ru_endsRounds_77 : dk_at b_Ru_endsRounds 77 t_Ru_endsRounds_77 := dk_go 3 a_Ru_endsRounds_74 rfl
theorem a_Ru_endsRounds_78 : dk_at b_Ru_endsRounds 78 t_Ru_endsRounds_78 := dk_go 1 a_Ru_endsRounds_77 rfl
theorem a_Ru_endsRounds_81 : dk_at b_Ru_endsRounds 81 t_Ru_endsRounds_81 := dk_go 3 a_Ru_endsRounds_78 rfl
theorem a_Ru_endsRounds_82 : dk_at b_Ru_endsRounds 82 t_Ru_endsRounds_82 := dk_go 1 a_Ru_endsRounds_81 rfl
theorem d_Ru_endsRounds_0 : decode b_Ru_endsRounds 0 = .ok (.iconst 0, 1) := dk_0 a_Ru_endsRounds_0 (dko_3 _)
theorem d_Ru_endsRounds_1 : decode b_Ru_endsRounds 1 = .ok (.istore_n 3, 1) := dk_0 a_Ru_endsRounds_1 (dko_62 _)
theorem d_Ru_endsRounds_2 : decode b_Ru_endsRounds 2 = .ok (.iload_n 3, 1) := dk_0 a_Ru_endsRounds_2 (dko_29 _)
theorem d_Ru_endsRounds_3 : decode b_Ru_endsRounds 3 = .ok (.sipush 1001, 3) := dk_S2 a_Ru_endsRounds_3 (dko_17 _) (by decide +kernel)
theorem d_Ru_endsRounds_6 : decode b_Ru_endsRounds 6 = .ok (.if_icmp .gt 60, 3) := dk_S2 a_Ru_endsRounds_6 (dko_163 _) (by decide +kernel)
theorem d_Ru_endsRounds_9 : decode b_Ru_endsRounds 9 = .ok (.aload_n 0, 1) := dk_0 a_Ru_endsRounds_9 (dko_42 _)
theorem d_Ru_endsRounds_10 : decode b_Ru_endsRounds 10 = .ok (.getfield 38, 3) := dk_U2 a_Ru_endsRounds_10 (dko_180 _) rfl
theorem d_Ru_endsRounds_13 : decode b_Ru_endsRounds 13 = .ok (.iload_n 1, 1) := dk_0 a_Ru_endsRounds_13 (dko_27 _)
theorem d_Ru_endsRounds_14 : decode b_Ru_endsRounds 14 = .ok (.laload, 1) := dk_0 a_Ru_endsRounds_14 (dko_47 _)
theorem d_Ru_endsRounds_15 : decode b_Ru_endsRounds 15 = .ok (.lconst 0, 1) := dk_0 a_Ru_endsRounds_15 (dko_9 _)
theorem d_Ru_endsRounds_16 : decode b_Ru_endsRounds 16 = .ok (.lcmp, 1) := dk_0 a_Ru_endsRounds_16 (dko_148 _)
theorem d_Ru_endsRounds_17 : decode b_Ru_endsRounds 17 = .ok (.ifCond .le 49, 3) := dk_S2 a_Ru_endsRounds_17 (dko_158 _) (by decide +kernel)
theorem d_Ru_endsRounds_20 : decode b_Ru_endsRounds 20 = .ok (.aload_n 0, 1) := dk_0 a_Ru_endsRounds_20 (dko_42 _)
theorem d_Ru_endsRounds_21 : decode b_Ru_endsRounds 21 = .ok (.aload_n 0, 1) := dk_0 a_Ru_endsRounds_21 (dko_42 _)
theorem d_Ru_endsRounds_22 : decode b_Ru_endsRounds 22 = .ok (.getfield 26, 3) := dk_U2 a_Ru_endsRounds_22 (dko_180 _) rfl
theorem d_Ru_endsRounds_25 : decode b_Ru_endsRounds 25 = .ok (.iload_n 1, 1) := dk_0 a_Ru_endsRounds_25 (dko_27 _)
theorem d_Ru_endsRounds_26 : decode b_Ru_endsRounds 26 = .ok (.iaload, 1) := dk_0 a_Ru_endsRounds_26 (dko_46 _)
theorem d_Ru_endsRounds_27 : decode b_Ru_endsRounds 27 = .ok (.iload_n 2, 1) := dk_0 a_Ru_endsRounds_27 (dko_28 _)
theorem d_Ru_endsRounds_28 : decode b_Ru_endsRounds 28 = .ok (.iconst 1, 1) := dk_0 a_Ru_endsRounds_28 (dko_4 _)
theorem d_Ru_endsRounds_29 : decode b_Ru_endsRounds 29 = .ok (.iadd, 1) := dk_0 a_Ru_endsRounds_29 (dko_96 _)
theorem d_Ru_endsRounds_30 : decode b_Ru_endsRounds 30 = .ok (.invokevirtual 107, 3) := dk_U2 a_Ru_endsRounds_30 (dko_182 _) rfl
theorem d_Ru_endsRounds_33 : decode b_Ru_endsRounds 33 = .ok (.ifCond .ne 5, 3) := dk_S2 a_Ru_endsRounds_33 (dko_154 _) (by decide +kernel)
theorem d_Ru_endsRounds_36 : decode b_Ru_endsRounds 36 = .ok (.iconst 0, 1) := dk_0 a_Ru_endsRounds_36 (dko_3 _)
theorem d_Ru_endsRounds_37 : decode b_Ru_endsRounds 37 = .ok (.ireturn, 1) := dk_0 a_Ru_endsRounds_37 (dko_172 _)
theorem d_Ru_endsRounds_38 : decode b_Ru_endsRounds 38 = .ok (.aload_n 0, 1) := dk_0 a_Ru_endsRounds_38 (dko_42 _)
theorem d_Ru_endsRounds_39 : decode b_Ru_endsRounds 39 = .ok (.getfield 38, 3) := dk_U2 a_Ru_endsRounds_39 (dko_180 _) rfl
theorem d_Ru_endsRounds_42 : decode b_Ru_endsRounds 42 = .ok (.iload_n 1, 1) := dk_0 a_Ru_endsRounds_42 (dko_27 _)
theorem d_Ru_endsRounds_43 : decode b_Ru_endsRounds 43 = .ok (.dup2, 1) := dk_0 a_Ru_endsRounds_43 (dko_92 _)
theorem d_Ru_endsRounds_44 : decode b_Ru_endsRounds 44 = .ok (.laload, 1) := dk_0 a_Ru_endsRounds_44 (dko_47 _)
theorem d_Ru_endsRounds_45 : decode b_Ru_endsRounds 45 = .ok (.lconst 1, 1) := dk_0 a_Ru_endsRounds_45 (dko_10 _)
theorem d_Ru_endsRounds_46 : decode b_Ru_endsRounds 46 = .ok (.lsub, 1) := dk_0 a_Ru_endsRounds_46 (dko_101 _)
theorem d_Ru_endsRounds_47 : decode b_Ru_endsRounds 47 = .ok (.lastore, 1) := dk_0 a_Ru_endsRounds_47 (dko_80 _)
theorem d_Ru_endsRounds_48 : decode b_Ru_endsRounds 48 = .ok (.aload_n 0, 1) := dk_0 a_Ru_endsRounds_48 (dko_42 _)
theorem d_Ru_endsRounds_49 : decode b_Ru_endsRounds 49 = .ok (.getfield 32, 3) := dk_U2 a_Ru_endsRounds_49 (dko_180 _) rfl
theorem d_Ru_endsRounds_52 : decode b_Ru_endsRounds 52 = .ok (.aload_n 0, 1) := dk_0 a_Ru_endsRounds_52 (dko_42 _)
theorem d_Ru_endsRounds_53 : decode b_Ru_endsRounds 53 = .ok (.getfield 26, 3) := dk_U2 a_Ru_endsRounds_53 (dko_180 _) rfl
theorem d_Ru_endsRounds_56 : decode b_Ru_endsRounds 56 = .ok (.iload_n 1, 1) := dk_0 a_Ru_endsRounds_56 (dko_27 _)
theorem d_Ru_endsRounds_57 : decode b_Ru_endsRounds 57 = .ok (.iaload, 1) := dk_0 a_Ru_endsRounds_57 (dko_46 _)
theorem d_Ru_endsRounds_58 : decode b_Ru_endsRounds 58 = .ok (.iconst 0, 1) := dk_0 a_Ru_endsRounds_58 (dko_3 _)
theorem d_Ru_endsRounds_59 : decode b_Ru_endsRounds 59 = .ok (.iastore, 1) := dk_0 a_Ru_endsRounds_59 (dko_79 _)
theorem d_Ru_endsRounds_60 : decode b_Ru_endsRounds 60 = .ok (.iinc 3 1, 3) := dk_US a_Ru_endsRounds_60 (dko_132 _) (by decide +kernel)
theorem d_Ru_endsRounds_63 : decode b_Ru_endsRounds 63 = .ok (.goto (-61), 3) := dk_S2 a_Ru_endsRounds_63 (dko_167 _) (by decide +kernel)
theorem d_Ru_endsRounds_66 : decode b_Ru_endsRounds 66 = .ok (.aload_n 0, 1) := dk_0 a_Ru_endsRounds_66 (dko_42 _)
theorem d_Ru_endsRounds_67 : decode b_Ru_endsRounds 67 = .ok (.getfield 38, 3) := dk_U2 a_Ru_endsRounds_67 (dko_180 _) rfl
theorem d_Ru_endsRounds_70 : decode b_Ru_endsRounds 70 = .ok (.iload_n 1, 1) := dk_0 a_Ru_endsRounds_70 (dko_27 _)
theorem d_Ru_endsRounds_71 : decode b_Ru_endsRounds 71 = .ok (.laload, 1) := dk_0 a_Ru_endsRounds_71 (dko_47 _)
theorem d_Ru_endsRounds_72 : decode b_Ru_endsRounds 72 = .ok (.lconst 0, 1) := dk_0 a_Ru_endsRounds_72 (dko_9 _)
theorem d_Ru_endsRounds_73 : decode b_Ru_endsRounds 73 = .ok (.lcmp, 1) := dk_0 a_Ru_endsRounds_73 (dko_148 _)
theorem d_Ru_endsRounds_74 : decode b_Ru_endsRounds 74 = .ok (.ifCond .gt 7, 3) := dk_S2 a_Ru_endsRounds_74 (dko_157 _) (by decide +kernel)
theorem d_Ru_endsRounds_77 : decode b_Ru_endsRounds 77 = .ok (.iconst 1, 1) := dk_0 a_Ru_endsRounds_77 (dko_4 _)
theorem d_Ru_endsRounds_78 : decode b_Ru_endsRounds 78 = .ok (.goto 4, 3) := dk_S2 a_Ru_endsRounds_78 (dko_167 _) (by decide +kernel)
theorem d_Ru_endsRounds_81 : decode b_Ru_endsRounds 81 = .ok (.iconst 0, 1) := dk_0 a_Ru_endsRounds_81 (dko_3 _)
theorem d_Ru_endsRounds_82 : decode b_Ru_endsRounds 82 = .ok (.ireturn, 1) := dk_0 a_Ru_endsRounds_82 (dko_172 _)
set_option maxHeartbeats 4000000 in
set_option maxRecDepth 100000 in
theorem ok_Ru_endsRounds (pc : Nat) : OpS mt mi_Ru_endsRounds pc (cs_Ru_endsRounds pc) := (os_n (os_n (os_n (os_n (os_n (os_l (so_iconst d_Ru_endsRounds_0 (by decide))) (os_n (os_l (so_istore_n d_Ru_endsRounds_1 rfl (by decide))) (os_l (so_iload_n d_Ru_endsRounds_2 rfl)))) (os_n (os_l (so_sipush d_Ru_endsRounds_3 (by decide))) (os_n (os_l (so_icgt d_Ru_endsRounds_6 (by decide))) (os_l (so_aload_n d_Ru_endsRounds_9 rfl))))) (os_n (os_n (os_l (so_get (C := R_Ru) (T := F_Ru) (N := 21) (j := 11) in_Ru rfl (by decide) mw_524 d_Ru_endsRounds_10)) (os_n (os_l (so_iload_n d_Ru_endsRounds_13 rfl)) (os_l (so_laload d_Ru_endsRounds_14)))) (os_n (os_n (os_l (so_lconst d_Ru_endsRounds_15 (by decide))) (os_l (so_lcmp d_Ru_endsRounds_16))) (os_n (os_l (so_ifle d_Ru_endsRounds_17 (by decide))) (os_l (so_aload_n d_Ru_endsRounds_20 rfl)))))) (os_n (os_n (os_n (os_l (so_aload_n d_Ru_endsRounds_21 rfl)) (os_n (os_l (so_get (C := R_Ru) (T := F_Ru) (N := 21) (j := 7) in_Ru rfl (by decide) mw_520 d_Ru_endsRounds_22)) (os_l (so_iload_n d_Ru_endsRounds_25 rfl)))) (os_n (os_l (so_iaload d_Ru_endsRounds_26)) (os_n (os_l (so_iload_n d_Ru_endsRounds_27 rfl)) (os_l (so_iconst d_Ru_endsRounds_28 (by decide)))))) (os_n (os_n (os_l (so_iadd d_Ru_endsRounds_29)) (os_n (os_l (so_callV (iv := mi_Ru_goOn) rfl rfl rfl mw_1374 mw_1376 sl_70 mw_11 mw_1377 ⟨by decide +kernel, by decide +kernel, by decide +kernel⟩ (by decide) d_Ru_endsRounds_30)) (os_l (so_ifne d_Ru_endsRounds_33 (by decide))))) (os_n (os_n (os_l (so_iconst d_Ru_endsRounds_36 (by decide))) (os_l (so_zreturn rfl d_Ru_endsRounds_37))) (os_n (os_l (so_aload_n d_Ru_endsRounds_38 rfl)) (os_l (so_get (C := R_Ru) (T := F_Ru) (N := 21) (j := 11) in_Ru rfl (by decide) mw_524 d_Ru_endsRounds_39))))))) (os_n (os_n (os_n (os_n (os_l (so_iload_n d_Ru_endsRounds_42 rfl)) (os_n (os_l (so_dup2 d_Ru_endsRounds_43)) (os_l (so_laload d_Ru_endsRounds_44)))) (os_n (os_l (so_lconst d_Ru_endsRounds_45 (by decide))) (os_n (os_l (so_lsub d_Ru_endsRounds_46)) (os_l (so_lastore d_Ru_endsRounds_47))))) (os_n (os_n (os_l (so_aload_n d_Ru_endsRounds_48 rfl)) (os_n (os_l (so_get (C := R_Ru) (T := F_Ru) (N := 21) (j := 9) in_Ru rfl (by decide) mw_522 d_Ru_endsRounds_49)) (os_l (so_aload_n d_Ru_endsRounds_52 rfl)))) (os_n (os_n (os_l (so_get (C := R_Ru) (T := F_Ru) (N := 21) (j := 7) in_Ru rfl (by decide) mw_520 d_Ru_endsRounds_53)) (os_l (so_iload_n d_Ru_endsRounds_56 rfl))) (os_n (os_l (so_iaload d_Ru_endsRounds_57)) (os_l (so_iconst d_Ru_endsRounds_58 (by decide))))))) (os_n (os_n (os_n (os_l (so_iastore d_Ru_endsRounds_59)) (os_n (os_l (so_iinc d_Ru_endsRounds_60 (by decide) (by decide))) (os_l (so_goto d_Ru_endsRounds_63 (by decide))))) (os_n (os_n (os_l (so_aload_n d_Ru_endsRounds_66 rfl)) (os_l (so_get (C := R_Ru) (T := F_Ru) (N := 21) (j := 11) in_Ru rfl (by decide) mw_524 d_Ru_endsRounds_67))) (os_n (os_l (so_iload_n d_Ru_endsRounds_70 rfl)) (os_l (so_laload d_Ru_endsRounds_71))))) (os_n (os_n (os_l (so_lconst d_Ru_endsRounds_72 (by decide))) (os_n (os_l (so_lcmp d_Ru_endsRounds_73)) (os_l (so_ifgt d_Ru_endsRounds_74 (by decide))))) (os_n (os_n (os_l (so_iconst d_Ru_endsRounds_77 (by decide))) (os_l (so_goto d_Ru_endsRounds_78 (by decide)))) (os_n (os_l (so_iconst d_Ru_endsRounds_81 (by decide))) (os_l (so_zreturn rfl d_Ru_endsRounds_82))))))))
abbrev t_Ru_beginPlain_157 : List UInt8 := 172 :: []
abbrev t_Ru_beginPlain_154 : List UInt8 := 182 :: 0 :: 180 :: t_Ru_beginPlain_157
abbrev t_Ru_beginPlain_153 : List UInt8 := 46 :: t_Ru_beginPlain_154
abbrev t_Ru_beginPlain_152 : List UInt8 := 27 :: t_Ru_beginPlain_153
abbrev t_Ru_beginPlain_149 : List UInt8 := 180 :: 0 :: 26 :: t_Ru_beginPlain_152
abbrev t_Ru_beginPlain_148 : List UInt8 := 42 :: t_Ru_beginPlain_149
abbrev t_Ru_beginPlain_147 : List UInt8 := 27 :: t_Ru_beginPlain_148
abbrev t_Ru_beginPlain_146 : List UInt8 := 42 :: t_Ru_beginPlain_147
abbrev t_Ru_beginPlain_145 : List UInt8 := 172 :: t_Ru_beginPlain_146
abbrev t_Ru_beginPlain_142 : List UInt8 := 182 :: 0 :: 177 :: t_Ru_beginPlain_145
abbrev t_Ru_beginPlain_141 : List UInt8 := 27 :: t_Ru_beginPlain_142
abbrev t_Ru_beginPlain_140 : List UInt8 := 42 :: t_Ru_beginPlain_141
abbrev t_Ru_beginPlain_139 : List UInt8 := 172 :: t_Ru_beginPlain_140
abbrev t_Ru_beginPlain_136 : List UInt8 := 182 :: 0 :: 174 :: t_Ru_beginPlain_139
abbrev t_Ru_beginPlain_135 : List UInt8 := 27 :: t_Ru_beginPlain_136
abbrev t_Ru_beginPlain_134 : List UInt8 := 42 :: t_Ru_beginPlain_135
abbrev t_Ru_beginPlain_133 : List UInt8 := 80 :: t_Ru_beginPlain_134
abbrev t_Ru_beginPlain_132 : List UInt8 := 9 :: t_Ru_beginPlain_133
abbrev t_Ru_beginPlain_131 : List UInt8 := 27 :: t_Ru_beginPlain_132
abbrev t_Ru_beginPlain_128 : List UInt8 := 180 :: 0 :: 38 :: t_Ru_beginPlain_131
abbrev t_Ru_beginPlain_127 : List UInt8 := 42 :: t_Ru_beginPlain_128
abbrev t_Ru_beginPlain_126 : List UInt8 := 172 :: t_Ru_beginPlain_127
abbrev t_Ru_beginPlain_125 : List UInt8 := 3 :: t_Ru_beginPlain_126
abbrev t_Ru_beginPlain_122 : List UInt8 := 181 :: 0 :: 18 :: t_Ru_beginPlain_125
abbrev t_Ru_beginPlain_121 : List UInt8 := 6 :: t_Ru_beginPlain_122
abbrev t_Ru_beginPlain_120 : List UInt8 := 42 :: t_Ru_beginPlain_121
abbrev t_Ru_beginPlain_119 : List UInt8 := 172 :: t_Ru_beginPlain_120
abbrev t_Ru_beginPlain_118 : List UInt8 := 4 :: t_Ru_beginPlain_119
abbrev t_Ru_beginPlain_115 : List UInt8 := 181 :: 0 :: 89 :: t_Ru_beginPlain_118
abbrev t_Ru_beginPlain_114 : List UInt8 := 4 :: t_Ru_beginPlain_115
abbrev t_Ru_beginPlain_113 : List UInt8 := 42 :: t_Ru_beginPlain_114
abbrev t_Ru_beginPlain_112 : List UInt8 := 172 :: t_Ru_beginPlain_113
abbrev t_Ru_beginPlain_111 : List UInt8 := 4 :: t_Ru_beginPlain_112
abbrev t_Ru_beginPlain_108 : List UInt8 := 182 :: 0 :: 116 :: t_Ru_beginPlain_111
abbrev t_Ru_beginPlain_107 : List UInt8 := 96 :: t_Ru_beginPlain_108
abbrev t_Ru_beginPlain_105 : List UInt8 := 21 :: 4 :: t_Ru_beginPlain_107
abbrev t_Ru_beginPlain_103 : List UInt8 := 16 :: 10 :: t_Ru_beginPlain_105
abbrev t_Ru_beginPlain_102 : List UInt8 := 29 :: t_Ru_beginPlain_103
abbrev t_Ru_beginPlain_99 : List UInt8 := 180 :: 0 :: 111 :: t_Ru_beginPlain_102
abbrev t_Ru_beginPlain_96 : List UInt8 := 180 :: 0 :: 62 :: t_Ru_beginPlain_99
abbrev t_Ru_beginPlain_95 : List UInt8 := 42 :: t_Ru_beginPlain_96
abbrev t_Ru_beginPlain_92 : List UInt8 := 180 :: 0 :: 58 :: t_Ru_beginPlain_95
abbrev t_Ru_beginPlain_91 : List UInt8 := 42 :: t_Ru_beginPlain_92
abbrev t_Ru_beginPlain_88 : List UInt8 := 158 :: 0 :: 23 :: t_Ru_beginPlain_91
abbrev t_Ru_beginPlain_86 : List UInt8 := 21 :: 4 :: t_Ru_beginPlain_88
abbrev t_Ru_beginPlain_84 : List UInt8 := 54 :: 4 :: t_Ru_beginPlain_86
abbrev t_Ru_beginPlain_81 : List UInt8 := 182 :: 0 :: 169 :: t_Ru_beginPlain_84
abbrev t_Ru_beginPlain_80 : List UInt8 := 46 :: t_Ru_beginPlain_81
abbrev t_Ru_beginPlain_79 : List UInt8 := 29 :: t_Ru_beginPlain_80
abbrev t_Ru_beginPlain_76 : List UInt8 := 180 :: 0 :: 166 :: t_Ru_beginPlain_79
abbrev t_Ru_beginPlain_73 : List UInt8 := 180 :: 0 :: 12 :: t_Ru_beginPlain_76
abbrev t_Ru_beginPlain_72 : List UInt8 := 42 :: t_Ru_beginPlain_73
abbrev t_Ru_beginPlain_69 : List UInt8 := 180 :: 0 :: 54 :: t_Ru_beginPlain_72
abbrev t_Ru_beginPlain_68 : List UInt8 := 42 :: t_Ru_beginPlain_69
abbrev t_Ru_beginPlain_8 : List UInt8 := 170 :: 0 :: 0 :: 0 :: 0 :: 0 :: 0 :: 138 :: 0 :: 0 :: 0 :: 16 :: 0 :: 0 :: 0 :: 26 :: 0 :: 0 :: 0 :: 132 :: 0 :: 0 :: 0 :: 138 :: 0 :: 0 :: 0 :: 138 :: 0 :: 0 :: 0 :: 138 :: 0 :: 0 :: 0 :: 138 :: 0 :: 0 :: 0 :: 138 :: 0 :: 0 :: 0 :: 119 :: 0 :: 0 :: 0 :: 138 :: 0 :: 0 :: 0 :: 112 :: 0 :: 0 :: 0 :: 105 :: 0 :: 0 :: 0 :: 60 :: t_Ru_beginPlain_68
abbrev t_Ru_beginPlain_7 : List UInt8 := 28 :: t_Ru_beginPlain_8
abbrev t_Ru_beginPlain_6 : List UInt8 := 62 :: t_Ru_beginPlain_7
abbrev t_Ru_beginPlain_5 : List UInt8 := 46 :: t_Ru_beginPlain_6
abbrev t_Ru_beginPlain_4 : List UInt8 := 27 :: t_Ru_beginPlain_5
abbrev t_Ru_beginPlain_1 : List UInt8 := 180 :: 0 :: 22 :: t_Ru_beginPlain_4
abbrev t_Ru_beginPlain_0 : List UInt8 := 42 :: t_Ru_beginPlain_1
theorem a_Ru_beginPlain_0 : dk_at b_Ru_beginPlain 0 t_Ru_beginPlain_0 := dk_start (by decide +kernel)
theorem a_Ru_beginPlain_1 : dk_at b_Ru_beginPlain 1 t_Ru_beginPlain_1 := dk_go 1 a_Ru_beginPlain_0 rfl
theorem a_Ru_beginPlain_4 : dk_at b_Ru_beginPlain 4 t_Ru_beginPlain_4 := dk_go 3 a_Ru_beginPlain_1 rfl
theorem a_Ru_beginPlain_5 : dk_at b_Ru_beginPlain 5 t_Ru_beginPlain_5 := dk_go 1 a_Ru_beginPlain_4 rfl
theorem a_Ru_beginPlain_6 : dk_at b_Ru_beginPlain 6 t_Ru_beginPlain_6 := dk_go 1 a_Ru_beginPlain_5 rfl
theorem a_Ru_beginPlain_7 : dk_at b_Ru_beginPlain 7 t_Ru_beginPlain_7 := dk_go 1 a_Ru_beginPlain_6 rfl
theorem a_Ru_beginPlain_8 : dk_at b_Ru_beginPlain 8 t_Ru_beginPlain_8 := dk_go 1 a_Ru_beginPlain_7 rfl
theorem a_Ru_beginPlain_68 : dk_at b_Ru_beginPlain 68 t_Ru_beginPlain_68 := dk_go 60 a_Ru_beginPlain_8 rfl
theorem a_Ru_beginPlain_69 : dk_at b_Ru_beginPlain 69 t_Ru_beginPlain_69 := dk_go 1 a_Ru_beginPlain_68 rfl
theorem a_Ru_beginPlain_72 : dk_at b_Ru_beginPlain 72 t_Ru_beginPlain_72 := dk_go 3 a_Ru_beginPlain_69 rfl
theorem a_Ru_beginPlain_73 : dk_at b_Ru_beginPlain 73 t_Ru_beginPlain_73 := dk_go 1 a_Ru_beginPlain_72 rfl
theorem a_Ru_beginPlain_76 : dk_at b_Ru_beginPlain 76 t_Ru_beginPlain_76 := dk_go 3 a_Ru_beginPlain_73 rfl
theorem a_Ru_beginPlain_79 : dk_at b_Ru_beginPlain 79 t_Ru_beginPlain_79 := dk_go 3 a_Ru_beginPlain_76 rfl
theorem a_Ru_beginPlain_80 : dk_at b_Ru_beginPlain 80 t_Ru_beginPlain_80 := dk_go 1 a_Ru_beginPlain_79 rfl
theorem a_Ru_beginPlain_81 : dk_at b_Ru_beginPlain 81 t_Ru_beginPlain_81 := dk_go 1 a_Ru_beginPlain_80 rfl
theorem a_Ru_beginPlain_84 : dk_at b_Ru_beginPlain 84 t_Ru_beginPlain_84 := dk_go 3 a_Ru_beginPlain_81 rfl
theorem a_Ru_beginPlain_86 : dk_at b_Ru_beginPlain 86 t_Ru_beginPlain_86 := dk_go 2 a_Ru_beginPlain_84 rfl
theorem a_Ru_beginPlain_88 : dk_at b_Ru_beginPlain 88 t_Ru_beginPlain_88 := dk_go 2 a_Ru_beginPlain_86 rfl
theorem a_Ru_beginPlain_91 : dk_at b_Ru_beginPlain 91 t_Ru_beginPlain_91 := dk_go 3 a_Ru_beginPlain_88 rfl
theorem a_Ru_beginPlain_92 : dk_at b_Ru_beginPlain 92 t_Ru_beginPlain_92 := dk_go 1 a_Ru_beginPlain_91 rfl
theorem a_Ru_beginPlain_95 : dk_at b_Ru_beginPlain 95 t_Ru_beginPlain_95 := dk_go 3 a_Ru_beginPlain_92 rfl
theorem a_Ru_beginPlain_96 : dk_at b_Ru_beginPlain 96 t_Ru_beginPlain_96 := dk_go 1 a_Ru_beginPlain_95 rfl
theorem a_Ru_beginPlain_99 : dk_at b_Ru_beginPlain 99 t_Ru_beginPlain_99 := dk_go 3 a_Ru_beginPlain_96 rfl
theorem a_Ru_beginPlain_102 : dk_at b_Ru_beginPlain 102 t_Ru_beginPlain_102 := dk_go 3 a_Ru_beginPlain_99 rfl
theorem a_Ru_beginPlain_103 : dk_at b_Ru_beginPlain 103 t_Ru_beginPlain_103 := dk_go 1 a_Ru_beginPlain_102 rfl
theorem a_Ru_beginPlain_105 : dk_at b_Ru_beginPlain 105 t_Ru_beginPlain_105 := dk_go 2 a_Ru_beginPlain_103 rfl
theorem a_Ru_beginPlain_107 : dk_at b_Ru_beginPlain 107 t_Ru_beginPlain_107 := dk_go 2 a_Ru_beginPlain_105 rfl
theorem a_Ru_beginPlain_108 : dk_at b_Ru_beginPlain 108 t_Ru_beginPlain_108 := dk_go 1 a_Ru_beginPlain_107 rfl
theorem a_Ru_beginPlain_111 : dk_at b_Ru_beginPlain 111 t_Ru_beginPlain_111 := dk_go 3 a_Ru_beginPlain_108 rfl
theorem a_Ru_beginPlain_112 : dk_at b_Ru_beginPlain 112 t_Ru_beginPlain_112 := dk_go 1 a_Ru_beginPlain_111 rfl
theorem a_Ru_beginPlain_113 : dk_at b_Ru_beginPlain 113 t_Ru_beginPlain_113 := dk_go 1 a_Ru_beginPlain_112 rfl
theorem a_Ru_beginPlain_114 : dk_at b_Ru_beginPlain 114 t_Ru_beginPlain_114 := dk_go 1 a_Ru_beginPlain_113 rfl
theorem a_Ru_beginPlain_115 : dk_at b_Ru_beginPlain 115 t_Ru_beginPlain_115 := dk_go 1 a_Ru_beginPlain_114 rfl
theorem a_Ru_beginPlain_118 : dk_at b_Ru_beginPlain 118 t_Ru_beginPlain_118 := dk_go 3 a_Ru_beginPlain_115 rfl
theorem a_Ru_beginPlain_119 : dk_at b_Ru_beginPlain 119 t_Ru_beginPlain_119 := dk_go 1 a_Ru_beginPlain_118 rfl
theorem a_Ru_beginPlain_120 : dk_at b_Ru_beginPlain 120 t_Ru_beginPlain_120 := dk_go 1 a_Ru_beginPlain_119 rfl
theorem a_Ru_beginPlain_121 : dk_at b_Ru_beginPlain 121 t_Ru_beginPlain_121 := dk_go 1 a_Ru_beginPlain_120 rfl
theorem a_Ru_beginPlain_122 : dk_at b_Ru_beginPlain 122 t_Ru_beginPlain_122 := dk_go 1 a_Ru_beginPlain_121 rfl
theorem a_Ru_beginPlain_125 : dk_at b_Ru_beginPlain 125 t_Ru_beginPlain_125 := dk_go 3 a_Ru_beginPlain_122 rfl
theorem a_Ru_beginPlain_126 : dk_at b_Ru_beginPlain 126 t_Ru_beginPlain_126 := dk_go 1 a_Ru_beginPlain_125 rfl
theorem a_Ru_beginPlain_127 : dk_at b_Ru_beginPlain 127 t_Ru_beginPlain_127 := dk_go 1 a_Ru_beginPlain_126 rfl
theorem a_Ru_beginPlain_128 : dk_at b_Ru_beginPlain 128 t_Ru_beginPlain_128 := dk_go 1 a_Ru_beginPlain_127 rfl
theorem a_Ru_beginPlain_131 : dk_at b_Ru_beginPlain 131 t_Ru_beginPlain_131 := dk_go 3 a_Ru_beginPlain_128 rfl
theorem a_Ru_beginPlain_132 : dk_at b_Ru_beginPlain 132 t_Ru_beginPlain_132 := dk_go 1 a_Ru_beginPlain_131 rfl
theorem a_Ru_beginPlain_133 : dk_at b_Ru_beginPlain 133 t_Ru_beginPlain_133 := dk_go 1 a_Ru_beginPlain_132 rfl
theorem a_Ru_beginPlain_134 : dk_at b_Ru_beginPlain 134 t_Ru_beginPlain_134 := dk_go 1 a_Ru_beginPlain_133 rfl
theorem a_Ru_beginPlain_135 : dk_at b_Ru_beginPlain 135 t_Ru_beginPlain_135 := dk_go 1 a_Ru_beginPlain_134 rfl
theorem a_Ru_beginPlain_136 : dk_at b_Ru_beginPlain 136 t_Ru_beginPlain_136 := dk_go 1 a_Ru_beginPlain_135 rfl
theorem a_Ru_beginPlain_139 : dk_at b_Ru_beginPlain 139 t_Ru_beginPlain_139 := dk_go 3 a_Ru_beginPlain_136 rfl
theorem a_Ru_beginPlain_140 : dk_at b_Ru_beginPlain 140 t_Ru_beginPlain_140 := dk_go 1 a_Ru_beginPlain_139 rfl
theorem a_Ru_beginPlain_141 : dk_at b_Ru_beginPlain 141 t_Ru_beginPlain_141 := dk_go 1 a_Ru_beginPlain_140 rfl
theorem a_Ru_beginPlain_142 : dk_at b_Ru_beginPlain 142 t_Ru_beginPlain_142 := dk_go 1 a_Ru_beginPlain_141 rfl
theorem a_Ru_beginPlain_145 : dk_at b_Ru_beginPlain 145 t_Ru_beginPlain_145 := dk_go 3 a_Ru_beginPlain_142 rfl
theorem a_Ru_beginPlain_146 : dk_at b_Ru_beginPlain 146 t_Ru_beginPlain_146 := dk_go 1 a_Ru_beginPlain_145 rfl
theorem a_Ru_beginPlain_147 : dk_at b_Ru_beginPlain 147 t_Ru_beginPlain_147 := dk_go 1 a_Ru_beginPlain_146 rfl
theorem a_Ru_beginPlain_148 : dk_at b_Ru_beginPlain 148 t_Ru_beginPlain_148 := dk_go 1 a_Ru_beginPlain_147 rfl
theorem a_Ru_beginPlain_149 : dk_at b_Ru_beginPlain 149 t_Ru_beginPlain_149 := dk_go 1 a_Ru_beginPlain_148 rfl
theorem a_Ru_beginPlain_152 : dk_at b_Ru_beginPlain 152 t_Ru_beginPlain_152 := dk_go 3 a_Ru_beginPlain_149 rfl
theorem a_Ru_beginPlain_153 : dk_at b_Ru_beginPlain 153 t_Ru_beginPlain_153 := dk_go 1 a_Ru_beginPlain_152 rfl
theorem a_Ru_beginPlain_154 : dk_at b_Ru_beginPlain 154 t_Ru_beginPlain_154 := dk_go 1 a_Ru_beginPlain_153 rfl
theorem a_Ru_beginPlain_157 : dk_at b_Ru_beginPlain 157 t_Ru_beginPlain_157 := dk_go 3 a_Ru_beginPlain_154 rfl
theorem d_Ru_beginPlain_0 : decode b_Ru_beginPlain 0 = .ok (.aload_n 0, 1) := dk_0 a_Ru_beginPlain_0 (dko_42 _)
theorem d_Ru_beginPlain_1 : decode b_Ru_beginPlain 1 = .ok (.getfield 22, 3) := dk_U2 a_Ru_beginPlain_1 (dko_180 _) rfl
theorem d_Ru_beginPlain_4 : decode b_Ru_beginPlain 4 = .ok (.iload_n 1, 1) := dk_0 a_Ru_beginPlain_4 (dko_27 _)
theorem d_Ru_beginPlain_5 : decode b_Ru_beginPlain 5 = .ok (.iaload, 1) := dk_0 a_Ru_beginPlain_5 (dko_46 _)
theorem d_Ru_beginPlain_6 : decode b_Ru_beginPlain 6 = .ok (.istore_n 3, 1) := dk_0 a_Ru_beginPlain_6 (dko_62 _)
theorem d_Ru_beginPlain_7 : decode b_Ru_beginPlain 7 = .ok (.iload_n 2, 1) := dk_0 a_Ru_beginPlain_7 (dko_28 _)
theorem d_Ru_beginPlain_8 : decode b_Ru_beginPlain 8 = .ok (.tableswitch 138 16 26 #[132, 138, 138, 138, 138, 138, 119, 138, 112, 105, 60], 60) := by decide +kernel
theorem d_Ru_beginPlain_68 : decode b_Ru_beginPlain 68 = .ok (.aload_n 0, 1) := dk_0 a_Ru_beginPlain_68 (dko_42 _)
theorem d_Ru_beginPlain_69 : decode b_Ru_beginPlain 69 = .ok (.getfield 54, 3) := dk_U2 a_Ru_beginPlain_69 (dko_180 _) rfl
theorem d_Ru_beginPlain_72 : decode b_Ru_beginPlain 72 = .ok (.aload_n 0, 1) := dk_0 a_Ru_beginPlain_72 (dko_42 _)
theorem d_Ru_beginPlain_73 : decode b_Ru_beginPlain 73 = .ok (.getfield 12, 3) := dk_U2 a_Ru_beginPlain_73 (dko_180 _) rfl
theorem d_Ru_beginPlain_76 : decode b_Ru_beginPlain 76 = .ok (.getfield 166, 3) := dk_U2 a_Ru_beginPlain_76 (dko_180 _) rfl
theorem d_Ru_beginPlain_79 : decode b_Ru_beginPlain 79 = .ok (.iload_n 3, 1) := dk_0 a_Ru_beginPlain_79 (dko_29 _)
theorem d_Ru_beginPlain_80 : decode b_Ru_beginPlain 80 = .ok (.iaload, 1) := dk_0 a_Ru_beginPlain_80 (dko_46 _)
theorem d_Ru_beginPlain_81 : decode b_Ru_beginPlain 81 = .ok (.invokevirtual 169, 3) := dk_U2 a_Ru_beginPlain_81 (dko_182 _) rfl
theorem d_Ru_beginPlain_84 : decode b_Ru_beginPlain 84 = .ok (.istore 4, 2) := dk_U1 a_Ru_beginPlain_84 (dko_54 _) rfl
theorem d_Ru_beginPlain_86 : decode b_Ru_beginPlain 86 = .ok (.iload 4, 2) := dk_U1 a_Ru_beginPlain_86 (dko_21 _) rfl
theorem d_Ru_beginPlain_88 : decode b_Ru_beginPlain 88 = .ok (.ifCond .le 23, 3) := dk_S2 a_Ru_beginPlain_88 (dko_158 _) (by decide +kernel)
theorem d_Ru_beginPlain_91 : decode b_Ru_beginPlain 91 = .ok (.aload_n 0, 1) := dk_0 a_Ru_beginPlain_91 (dko_42 _)
theorem d_Ru_beginPlain_92 : decode b_Ru_beginPlain 92 = .ok (.getfield 58, 3) := dk_U2 a_Ru_beginPlain_92 (dko_180 _) rfl
theorem d_Ru_beginPlain_95 : decode b_Ru_beginPlain 95 = .ok (.aload_n 0, 1) := dk_0 a_Ru_beginPlain_95 (dko_42 _)
theorem d_Ru_beginPlain_96 : decode b_Ru_beginPlain 96 = .ok (.getfield 62, 3) := dk_U2 a_Ru_beginPlain_96 (dko_180 _) rfl
theorem d_Ru_beginPlain_99 : decode b_Ru_beginPlain 99 = .ok (.getfield 111, 3) := dk_U2 a_Ru_beginPlain_99 (dko_180 _) rfl
theorem d_Ru_beginPlain_102 : decode b_Ru_beginPlain 102 = .ok (.iload_n 3, 1) := dk_0 a_Ru_beginPlain_102 (dko_29 _)
theorem d_Ru_beginPlain_103 : decode b_Ru_beginPlain 103 = .ok (.bipush 10, 2) := dk_S1 a_Ru_beginPlain_103 (dko_16 _) (by decide +kernel)
theorem d_Ru_beginPlain_105 : decode b_Ru_beginPlain 105 = .ok (.iload 4, 2) := dk_U1 a_Ru_beginPlain_105 (dko_21 _) rfl
theorem d_Ru_beginPlain_107 : decode b_Ru_beginPlain 107 = .ok (.iadd, 1) := dk_0 a_Ru_beginPlain_107 (dko_96 _)
theorem d_Ru_beginPlain_108 : decode b_Ru_beginPlain 108 = .ok (.invokevirtual 116, 3) := dk_U2 a_Ru_beginPlain_108 (dko_182 _) rfl
theorem d_Ru_beginPlain_111 : decode b_Ru_beginPlain 111 = .ok (.iconst 1, 1) := dk_0 a_Ru_beginPlain_111 (dko_4 _)
theorem d_Ru_beginPlain_112 : decode b_Ru_beginPlain 112 = .ok (.ireturn, 1) := dk_0 a_Ru_beginPlain_112 (dko_172 _)
theorem d_Ru_beginPlain_113 : decode b_Ru_beginPlain 113 = .ok (.aload_n 0, 1) := dk_0 a_Ru_beginPlain_113 (dko_42 _)
theorem d_Ru_beginPlain_114 : decode b_Ru_beginPlain 114 = .ok (.iconst 1, 1) := dk_0 a_Ru_beginPlain_114 (dko_4 _)
theorem d_Ru_beginPlain_115 : decode b_Ru_beginPlain 115 = .ok (.putfield 89, 3) := dk_U2 a_Ru_beginPlain_115 (dko_181 _) rfl
theorem d_Ru_beginPlain_118 : decode b_Ru_beginPlain 118 = .ok (.iconst 1, 1) := dk_0 a_Ru_beginPlain_118 (dko_4 _)
theorem d_Ru_beginPlain_119 : decode b_Ru_beginPlain 119 = .ok (.ireturn, 1) := dk_0 a_Ru_beginPlain_119 (dko_172 _)
theorem d_Ru_beginPlain_120 : decode b_Ru_beginPlain 120 = .ok (.aload_n 0, 1) := dk_0 a_Ru_beginPlain_120 (dko_42 _)
theorem d_Ru_beginPlain_121 : decode b_Ru_beginPlain 121 = .ok (.iconst 3, 1) := dk_0 a_Ru_beginPlain_121 (dko_6 _)
theorem d_Ru_beginPlain_122 : decode b_Ru_beginPlain 122 = .ok (.putfield 18, 3) := dk_U2 a_Ru_beginPlain_122 (dko_181 _) rfl
theorem d_Ru_beginPlain_125 : decode b_Ru_beginPlain 125 = .ok (.iconst 0, 1) := dk_0 a_Ru_beginPlain_125 (dko_3 _)
theorem d_Ru_beginPlain_126 : decode b_Ru_beginPlain 126 = .ok (.ireturn, 1) := dk_0 a_Ru_beginPlain_126 (dko_172 _)
theorem d_Ru_beginPlain_127 : decode b_Ru_beginPlain 127 = .ok (.aload_n 0, 1) := dk_0 a_Ru_beginPlain_127 (dko_42 _)
theorem d_Ru_beginPlain_128 : decode b_Ru_beginPlain 128 = .ok (.getfield 38, 3) := dk_U2 a_Ru_beginPlain_128 (dko_180 _) rfl
theorem d_Ru_beginPlain_131 : decode b_Ru_beginPlain 131 = .ok (.iload_n 1, 1) := dk_0 a_Ru_beginPlain_131 (dko_27 _)
theorem d_Ru_beginPlain_132 : decode b_Ru_beginPlain 132 = .ok (.lconst 0, 1) := dk_0 a_Ru_beginPlain_132 (dko_9 _)
theorem d_Ru_beginPlain_133 : decode b_Ru_beginPlain 133 = .ok (.lastore, 1) := dk_0 a_Ru_beginPlain_133 (dko_80 _)
theorem d_Ru_beginPlain_134 : decode b_Ru_beginPlain 134 = .ok (.aload_n 0, 1) := dk_0 a_Ru_beginPlain_134 (dko_42 _)
theorem d_Ru_beginPlain_135 : decode b_Ru_beginPlain 135 = .ok (.iload_n 1, 1) := dk_0 a_Ru_beginPlain_135 (dko_27 _)
theorem d_Ru_beginPlain_136 : decode b_Ru_beginPlain 136 = .ok (.invokevirtual 174, 3) := dk_U2 a_Ru_beginPlain_136 (dko_182 _) rfl
theorem d_Ru_beginPlain_139 : decode b_Ru_beginPlain 139 = .ok (.ireturn, 1) := dk_0 a_Ru_beginPlain_139 (dko_172 _)
theorem d_Ru_beginPlain_140 : decode b_Ru_beginPlain 140 = .ok (.aload_n 0, 1) := dk_0 a_Ru_beginPlain_140 (dko_42 _)
theorem d_Ru_beginPlain_141 : decode b_Ru_beginPlain 141 = .ok (.iload_n 1, 1) := dk_0 a_Ru_beginPlain_141 (dko_27 _)
theorem d_Ru_beginPlain_142 : decode b_Ru_beginPlain 142 = .ok (.invokevirtual 177, 3) := dk_U2 a_Ru_beginPlain_142 (dko_182 _) rfl
theorem d_Ru_beginPlain_145 : decode b_Ru_beginPlain 145 = .ok (.ireturn, 1) := dk_0 a_Ru_beginPlain_145 (dko_172 _)
theorem d_Ru_beginPlain_146 : decode b_Ru_beginPlain 146 = .ok (.aload_n 0, 1) := dk_0 a_Ru_beginPlain_146 (dko_42 _)
theorem d_Ru_beginPlain_147 : decode b_Ru_beginPlain 147 = .ok (.iload_n 1, 1) := dk_0 a_Ru_beginPlain_147 (dko_27 _)
theorem d_Ru_beginPlain_148 : decode b_Ru_beginPlain 148 = .ok (.aload_n 0, 1) := dk_0 a_Ru_beginPlain_148 (dko_42 _)
theorem d_Ru_beginPlain_149 : decode b_Ru_beginPlain 149 = .ok (.getfield 26, 3) := dk_U2 a_Ru_beginPlain_149 (dko_180 _) rfl
theorem d_Ru_beginPlain_152 : decode b_Ru_beginPlain 152 = .ok (.iload_n 1, 1) := dk_0 a_Ru_beginPlain_152 (dko_27 _)
theorem d_Ru_beginPlain_153 : decode b_Ru_beginPlain 153 = .ok (.iaload, 1) := dk_0 a_Ru_beginPlain_153 (dko_46 _)
theorem d_Ru_beginPlain_154 : decode b_Ru_beginPlain 154 = .ok (.invokevirtual 180, 3) := dk_U2 a_Ru_beginPlain_154 (dko_182 _) rfl
theorem d_Ru_beginPlain_157 : decode b_Ru_beginPlain 157 = .ok (.ireturn, 1) := dk_0 a_Ru_beginPlain_157 (dko_172 _)
set_option maxHeartbeats 4000000 in
set_option maxRecDepth 100000 in
theorem ok_Ru_beginPlain (pc : Nat) : OpS mt mi_Ru_beginPlain pc (cs_Ru_beginPlain pc) := (os_n (os_n (os_n (os_n (os_n (os_l (so_aload_n d_Ru_beginPlain_0 rfl)) (os_n (os_l (so_get (C := R_Ru) (T := F_Ru) (N := 21) (j := 6) in_Ru rfl (by decide) mw_519 d_Ru_beginPlain_1)) (os_l (so_iload_n d_Ru_beginPlain_4 rfl)))) (os_n (os_n (os_l (so_iaload d_Ru_beginPlain_5)) (os_l (so_istore_n d_Ru_beginPlain_6 rfl (by decide)))) (os_n (os_l (so_iload_n d_Ru_beginPlain_7 rfl)) (os_l (so_tab d_Ru_beginPlain_8 (by decide) (by decide) (by decide)))))) (os_n (os_n (os_n (os_l (so_aload_n d_Ru_beginPlain_68 rfl)) (os_l (so_get (C := R_Ru) (T := F_Ru) (N := 21) (j := 0) in_Ru rfl (by decide) mw_511 d_Ru_beginPlain_69))) (os_n (os_l (so_aload_n d_Ru_beginPlain_72 rfl)) (os_l (so_get (C := R_Ru) (T := F_Ru) (N := 21) (j := 3) in_Ru rfl (by decide) mw_514 d_Ru_beginPlain_73)))) (os_n (os_n (os_l (so_get (C := R_Pr) (T := F_Pr) (N := 18) (j := 4) in_Pr rfl (by decide) mw_442 d_Ru_beginPlain_76)) (os_l (so_iload_n d_Ru_beginPlain_79 rfl))) (os_n (os_l (so_iaload d_Ru_beginPlain_80)) (os_l (so_callV (iv := mi_Ac_perform) rfl rfl rfl mw_1421 mw_1187 mw_1188 mw_9 mw_1189 ⟨by decide +kernel, by decide +kernel, by decide +kernel⟩ (by decide) d_Ru_beginPlain_81)))))) (os_n (os_n (os_n (os_l (so_istore d_Ru_beginPlain_84 (by decide))) (os_n (os_l (so_iload d_Ru_beginPlain_86)) (os_l (so_ifle d_Ru_beginPlain_88 (by decide))))) (os_n (os_n (os_l (so_aload_n d_Ru_beginPlain_91 rfl)) (os_l (so_get (C := R_Ru) (T := F_Ru) (N := 21) (j := 1) in_Ru rfl (by decide) mw_512 d_Ru_beginPlain_92))) (os_n (os_l (so_aload_n d_Ru_beginPlain_95 rfl)) (os_l (so_get (C := R_Ru) (T := F_Ru) (N := 21) (j := 2) in_Ru rfl (by decide) mw_513 d_Ru_beginPlain_96))))) (os_n (os_n (os_n (os_l (so_get (C := R_St) (T := F_St) (N := 12) (j := 1) in_St rfl (by decide) mw_154 d_Ru_beginPlain_99)) (os_l (so_iload_n d_Ru_beginPlain_102 rfl))) (os_n (os_l (so_bipush d_Ru_beginPlain_103 (by decide))) (os_l (so_iload d_Ru_beginPlain_105)))) (os_n (os_n (os_l (so_iadd d_Ru_beginPlain_107)) (os_l (so_callV (iv := mi_Al_add) rfl rfl rfl mw_1365 mw_1290 mw_1291 mw_3 mw_1292 ⟨by decide +kernel, by decide +kernel, by decide +kernel⟩ (by decide) d_Ru_beginPlain_108))) (os_n (os_l (so_iconst d_Ru_beginPlain_111 (by decide))) (os_l (so_ireturn rfl d_Ru_beginPlain_112))))))) (os_n (os_n (os_n (os_n (os_l (so_aload_n d_Ru_beginPlain_113 rfl)) (os_n (os_l (so_iconst d_Ru_beginPlain_114 (by decide))) (os_l (so_putZ (C := R_Ru) (T := F_Ru) (N := 21) (j := 18) in_Ru t_Ru_ok n_Ru rfl (by decide) mw_531 rfl (by decide +kernel) d_Ru_beginPlain_115)))) (os_n (os_n (os_l (so_iconst d_Ru_beginPlain_118 (by decide))) (os_l (so_ireturn rfl d_Ru_beginPlain_119))) (os_n (os_l (so_aload_n d_Ru_beginPlain_120 rfl)) (os_l (so_iconst d_Ru_beginPlain_121 (by decide)))))) (os_n (os_n (os_n (os_l (so_putI (C := R_Ru) (T := F_Ru) (N := 21) (j := 4) in_Ru t_Ru_ok n_Ru rfl (by decide) mw_516 rfl (by decide +kernel) d_Ru_beginPlain_122)) (os_l (so_iconst d_Ru_beginPlain_125 (by decide)))) (os_n (os_l (so_ireturn rfl d_Ru_beginPlain_126)) (os_l (so_aload_n d_Ru_beginPlain_127 rfl)))) (os_n (os_n (os_l (so_get (C := R_Ru) (T := F_Ru) (N := 21) (j := 11) in_Ru rfl (by decide) mw_524 d_Ru_beginPlain_128)) (os_l (so_iload_n d_Ru_beginPlain_131 rfl))) (os_n (os_l (so_lconst d_Ru_beginPlain_132 (by decide))) (os_l (so_lastore d_Ru_beginPlain_133)))))) (os_n (os_n (os_n (os_n (os_l (so_aload_n d_Ru_beginPlain_134 rfl)) (os_l (so_iload_n d_Ru_beginPlain_135 rfl))) (os_n (os_l (so_callV (iv := mi_Ru_stand) rfl rfl rfl mw_1405 mw_1407 sl_77 mw_11 mw_1408 ⟨by decide +kernel, by decide +kernel, by decide +kernel⟩ (by decide) d_Ru_beginPlain_136)) (os_l (so_ireturn rfl d_Ru_beginPlain_139)))) (os_n (os_n (os_l (so_aload_n d_Ru_beginPlain_140 rfl)) (os_l (so_iload_n d_Ru_beginPlain_141 rfl))) (os_n (os_l (so_callV (iv := mi_Ru_beginPar) rfl rfl rfl mw_1422 mw_1424 sl_81 mw_11 mw_1425 ⟨by decide +kernel, by decide +kernel, by decide +kernel⟩ (by decide) d_Ru_beginPlain_142)) (os_l (so_ireturn rfl d_Ru_beginPlain_145))))) (os_n (os_n (os_n (os_l (so_aload_n d_Ru_beginPlain_146 rfl)) (os_l (so_iload_n d_Ru_beginPlain_147 rfl))) (os_n (os_l (so_aload_n d_Ru_beginPlain_148 rfl)) (os_l (so_get (C := R_Ru) (T := F_Ru) (N := 21) (j := 7) in_Ru rfl (by decide) mw_520 d_Ru_beginPlain_149)))) (os_n (os_n (os_l (so_iload_n d_Ru_beginPlain_152 rfl)) (os_l (so_iaload d_Ru_beginPlain_153))) (os_n (os_l (so_callV (iv := mi_Ru_goInside) rfl rfl rfl mw_1413 mw_1415 sl_79 mw_11 mw_1416 ⟨by decide +kernel, by decide +kernel, by decide +kernel⟩ (by decide) d_Ru_beginPlain_154)) (os_l (so_ireturn rfl d_Ru_beginPlain_157))))))))
abbrev t_Ru_stand_15 : List UInt8 := 172 :: []
abbrev t_Ru_stand_14 : List UInt8 := 3 :: t_Ru_stand_15
abbrev t_Ru_stand_13 : List UInt8 := 79 :: t_Ru_stand_14
abbrev t_Ru_stand_12 : List UInt8 := 2 :: t_Ru_stand_13
abbrev t_Ru_stand_11 : List UInt8 := 27 :: t_Ru_stand_12
abbrev t_Ru_stand_8 : List UInt8 := 180 :: 0 :: 35 :: t_Ru_stand_11
abbrev t_Ru_stand_7 : List UInt8 := 42 :: t_Ru_stand_8
abbrev t_Ru_stand_6 : List UInt8 := 79 :: t_Ru_stand_7
abbrev t_Ru_stand_5 : List UInt8 := 4 :: t_Ru_stand_6
abbrev t_Ru_stand_4 : List UInt8 := 27 :: t_Ru_stand_5
abbrev t_Ru_stand_1 : List UInt8 := 180 :: 0 :: 32 :: t_Ru_stand_4
abbrev t_Ru_stand_0 : List UInt8 := 42 :: t_Ru_stand_1
theorem a_Ru_stand_0 : dk_at b_Ru_stand 0 t_Ru_stand_0 := dk_start (by decide +kernel)
theorem a_Ru_stand_1 : dk_at b_Ru_stand 1 t_Ru_stand_1 := dk_go 1 a_Ru_stand_0 rfl
theorem a_Ru_stand_4 : dk_at b_Ru_stand 4 t_Ru_stand_4 := dk_go 3 a_Ru_stand_1 rfl
theorem a_Ru_stand_5 : dk_at b_Ru_stand 5 t_Ru_stand_5 := dk_go 1 a_Ru_stand_4 rfl
theorem a_Ru_stand_6 : dk_at b_Ru_stand 6 t_Ru_stand_6 := dk_go 1 a_Ru_stand_5 rfl
theorem a_Ru_stand_7 : dk_at b_Ru_stand 7 t_Ru_stand_7 := dk_go 1 a_Ru_stand_6 rfl
theorem a_Ru_stand_8 : dk_at b_Ru_stand 8 t_Ru_stand_8 := dk_go 1 a_Ru_stand_7 rfl
theorem a_Ru_stand_11 : dk_at b_Ru_stand 11 t_Ru_stand_11 := dk_go 3 a_Ru_stand_8 rfl
theorem a_Ru_stand_12 : dk_at b_Ru_stand 12 t_Ru_stand_12 := dk_go 1 a_Ru_stand_11 rfl
theorem a_Ru_stand_13 : dk_at b_Ru_stand 13 t_Ru_stand_13 := dk_go 1 a_Ru_stand_12 rfl
theorem a_Ru_stand_14 : dk_at b_Ru_stand 14 t_Ru_stand_14 := dk_go 1 a_Ru_stand_13 rfl
theorem a_Ru_stand_15 : dk_at b_Ru_stand 15 t_Ru_stand_15 := dk_go 1 a_Ru_stand_14 rfl
theorem d_Ru_stand_0 : decode b_Ru_stand 0 = .ok (.aload_n 0, 1) := dk_0 a_Ru_stand_0 (dko_42 _)
theorem d_Ru_stand_1 : decode b_Ru_stand 1 = .ok (.getfield 32, 3) := dk_U2 a_Ru_stand_1 (dko_180 _) rfl
theorem d_Ru_stand_4 : decode b_Ru_stand 4 = .ok (.iload_n 1, 1) := dk_0 a_Ru_stand_4 (dko_27 _)
theorem d_Ru_stand_5 : decode b_Ru_stand 5 = .ok (.iconst 1, 1) := dk_0 a_Ru_stand_5 (dko_4 _)
theorem d_Ru_stand_6 : decode b_Ru_stand 6 = .ok (.iastore, 1) := dk_0 a_Ru_stand_6 (dko_79 _)
theorem d_Ru_stand_7 : decode b_Ru_stand 7 = .ok (.aload_n 0, 1) := dk_0 a_Ru_stand_7 (dko_42 _)
theorem d_Ru_stand_8 : decode b_Ru_stand 8 = .ok (.getfield 35, 3) := dk_U2 a_Ru_stand_8 (dko_180 _) rfl
theorem d_Ru_stand_11 : decode b_Ru_stand 11 = .ok (.iload_n 1, 1) := dk_0 a_Ru_stand_11 (dko_27 _)
theorem d_Ru_stand_12 : decode b_Ru_stand 12 = .ok (.iconst (-1), 1) := dk_0 a_Ru_stand_12 (dko_2 _)
theorem d_Ru_stand_13 : decode b_Ru_stand 13 = .ok (.iastore, 1) := dk_0 a_Ru_stand_13 (dko_79 _)
theorem d_Ru_stand_14 : decode b_Ru_stand 14 = .ok (.iconst 0, 1) := dk_0 a_Ru_stand_14 (dko_3 _)
theorem d_Ru_stand_15 : decode b_Ru_stand 15 = .ok (.ireturn, 1) := dk_0 a_Ru_stand_15 (dko_172 _)
set_option maxHeartbeats 4000000 in
set_option maxRecDepth 100000 in
theorem ok_Ru_stand (pc : Nat) : OpS mt mi_Ru_stand pc (cs_Ru_stand pc) := (os_n (os_n (os_n (os_l (so_aload_n d_Ru_stand_0 rfl)) (os_n (os_l (so_get (C := R_Ru) (T := F_Ru) (N := 21) (j := 9) in_Ru rfl (by decide) mw_522 d_Ru_stand_1)) (os_l (so_iload_n d_Ru_stand_4 rfl)))) (os_n (os_l (so_iconst d_Ru_stand_5 (by decide))) (os_n (os_l (so_iastore d_Ru_stand_6)) (os_l (so_aload_n d_Ru_stand_7 rfl))))) (os_n (os_n (os_l (so_get (C := R_Ru) (T := F_Ru) (N := 21) (j := 10) in_Ru rfl (by decide) mw_523 d_Ru_stand_8)) (os_n (os_l (so_iload_n d_Ru_stand_11 rfl)) (os_l (so_iconst d_Ru_stand_12 (by decide))))) (os_n (os_l (so_iastore d_Ru_stand_13)) (os_n (os_l (so_iconst d_Ru_stand_14 (by decide))) (os_l (so_ireturn rfl d_Ru_stand_15))))))
abbrev t_Ru_goInside_14 : List UInt8 := 172 :: []
abbrev t_Ru_goInside_13 : List UInt8 := 5 :: t_Ru_goInside_14
abbrev t_Ru_goInside_10 : List UInt8 := 182 :: 0 :: 138 :: t_Ru_goInside_13
abbrev t_Ru_goInside_9 : List UInt8 := 28 :: t_Ru_goInside_10
abbrev t_Ru_goInside_8 : List UInt8 := 27 :: t_Ru_goInside_9
abbrev t_Ru_goInside_7 : List UInt8 := 42 :: t_Ru_goInside_8
abbrev t_Ru_goInside_6 : List UInt8 := 79 :: t_Ru_goInside_7
abbrev t_Ru_goInside_5 : List UInt8 := 4 :: t_Ru_goInside_6
abbrev t_Ru_goInside_4 : List UInt8 := 27 :: t_Ru_goInside_5
abbrev t_Ru_goInside_1 : List UInt8 := 180 :: 0 :: 32 :: t_Ru_goInside_4
abbrev t_Ru_goInside_0 : List UInt8 := 42 :: t_Ru_goInside_1
theorem a_Ru_goInside_0 : dk_at b_Ru_goInside 0 t_Ru_goInside_0 := dk_start (by decide +kernel)
theorem a_Ru_goInside_1 : dk_at b_Ru_goInside 1 t_Ru_goInside_1 := dk_go 1 a_Ru_goInside_0 rfl
theorem a_Ru_goInside_4 : dk_at b_Ru_goInside 4 t_Ru_goInside_4 := dk_go 3 a_Ru_goInside_1 rfl
theorem a_Ru_goInside_5 : dk_at b_Ru_goInside 5 t_Ru_goInside_5 := dk_go 1 a_Ru_goInside_4 rfl
theorem a_Ru_goInside_6 : dk_at b_Ru_goInside 6 t_Ru_goInside_6 := dk_go 1 a_Ru_goInside_5 rfl
theorem a_Ru_goInside_7 : dk_at b_Ru_goInside 7 t_Ru_goInside_7 := dk_go 1 a_Ru_goInside_6 rfl
theorem a_Ru_goInside_8 : dk_at b_Ru_goInside 8 t_Ru_goInside_8 := dk_go 1 a_Ru_goInside_7 rfl
theorem a_Ru_goInside_9 : dk_at b_Ru_goInside 9 t_Ru_goInside_9 := dk_go 1 a_Ru_goInside_8 rfl
theorem a_Ru_goInside_10 : dk_at b_Ru_goInside 10 t_Ru_goInside_10 := dk_go 1 a_Ru_goInside_9 rfl
theorem a_Ru_goInside_13 : dk_at b_Ru_goInside 13 t_Ru_goInside_13 := dk_go 3 a_Ru_goInside_10 rfl
theorem a_Ru_goInside_14 : dk_at b_Ru_goInside 14 t_Ru_goInside_14 := dk_go 1 a_Ru_goInside_13 rfl
theorem d_Ru_goInside_0 : decode b_Ru_goInside 0 = .ok (.aload_n 0, 1) := dk_0 a_Ru_goInside_0 (dko_42 _)
theorem d_Ru_goInside_1 : decode b_Ru_goInside 1 = .ok (.getfield 32, 3) := dk_U2 a_Ru_goInside_1 (dko_180 _) rfl
theorem d_Ru_goInside_4 : decode b_Ru_goInside 4 = .ok (.iload_n 1, 1) := dk_0 a_Ru_goInside_4 (dko_27 _)
theorem d_Ru_goInside_5 : decode b_Ru_goInside 5 = .ok (.iconst 1, 1) := dk_0 a_Ru_goInside_5 (dko_4 _)
theorem d_Ru_goInside_6 : decode b_Ru_goInside 6 = .ok (.iastore, 1) := dk_0 a_Ru_goInside_6 (dko_79 _)
theorem d_Ru_goInside_7 : decode b_Ru_goInside 7 = .ok (.aload_n 0, 1) := dk_0 a_Ru_goInside_7 (dko_42 _)
theorem d_Ru_goInside_8 : decode b_Ru_goInside 8 = .ok (.iload_n 1, 1) := dk_0 a_Ru_goInside_8 (dko_27 _)
theorem d_Ru_goInside_9 : decode b_Ru_goInside 9 = .ok (.iload_n 2, 1) := dk_0 a_Ru_goInside_9 (dko_28 _)
theorem d_Ru_goInside_10 : decode b_Ru_goInside 10 = .ok (.invokevirtual 138, 3) := dk_U2 a_Ru_goInside_10 (dko_182 _) rfl
theorem d_Ru_goInside_13 : decode b_Ru_goInside 13 = .ok (.iconst 2, 1) := dk_0 a_Ru_goInside_13 (dko_5 _)
theorem d_Ru_goInside_14 : decode b_Ru_goInside 14 = .ok (.ireturn, 1) := dk_0 a_Ru_goInside_14 (dko_172 _)
set_option maxHeartbeats 4000000 in
set_option maxRecDepth 100000 in
theorem ok_Ru_goInside (pc : Nat) : OpS mt mi_Ru_goInside pc (cs_Ru_goInside pc) := (os_n (os_n (os_n (os_l (so_aload_n d_Ru_goInside_0 rfl)) (os_l (so_get (C := R_Ru) (T := F_Ru) (N := 21) (j := 9) in_Ru rfl (by decide) mw_522 d_Ru_goInside_1))) (os_n (os_l (so_iload_n d_Ru_goInside_4 rfl)) (os_n (os_l (so_iconst d_Ru_goInside_5 (by decide))) (os_l (so_iastore d_Ru_goInside_6))))) (os_n (os_n (os_l (so_aload_n d_Ru_goInside_7 rfl)) (os_n (os_l (so_iload_n d_Ru_goInside_8 rfl)) (os_l (so_iload_n d_Ru_goInside_9 rfl)))) (os_n (os_l (so_callV (iv := mi_Ru_choose) rfl rfl rfl mw_1370 mw_1372 sl_69 mw_11 mw_1373 ⟨by decide +kernel, by decide +kernel, by decide +kernel⟩ (by decide) d_Ru_goInside_10)) (os_n (os_l (so_iconst d_Ru_goInside_13 (by decide))) (os_l (so_ireturn rfl d_Ru_goInside_14))))))
abbrev t_Ru_beginPar_46 : List UInt8 := 172 :: []
abbrev t_Ru_beginPar_43 : List UInt8 := 182 :: 0 :: 180 :: t_Ru_beginPar_46
abbrev t_Ru_beginPar_42 : List UInt8 := 2 :: t_Ru_beginPar_43
abbrev t_Ru_beginPar_41 : List UInt8 := 27 :: t_Ru_beginPar_42
abbrev t_Ru_beginPar_40 : List UInt8 := 42 :: t_Ru_beginPar_41
abbrev t_Ru_beginPar_37 : List UInt8 := 167 :: 255 :: 228 :: t_Ru_beginPar_40
abbrev t_Ru_beginPar_34 : List UInt8 := 132 :: 3 :: 1 :: t_Ru_beginPar_37
abbrev t_Ru_beginPar_33 : List UInt8 := 61 :: t_Ru_beginPar_34
abbrev t_Ru_beginPar_32 : List UInt8 := 46 :: t_Ru_beginPar_33
abbrev t_Ru_beginPar_31 : List UInt8 := 28 :: t_Ru_beginPar_32
abbrev t_Ru_beginPar_28 : List UInt8 := 180 :: 0 :: 29 :: t_Ru_beginPar_31
abbrev t_Ru_beginPar_27 : List UInt8 := 42 :: t_Ru_beginPar_28
abbrev t_Ru_beginPar_26 : List UInt8 := 79 :: t_Ru_beginPar_27
abbrev t_Ru_beginPar_25 : List UInt8 := 3 :: t_Ru_beginPar_26
abbrev t_Ru_beginPar_24 : List UInt8 := 28 :: t_Ru_beginPar_25
abbrev t_Ru_beginPar_21 : List UInt8 := 180 :: 0 :: 32 :: t_Ru_beginPar_24
abbrev t_Ru_beginPar_20 : List UInt8 := 42 :: t_Ru_beginPar_21
abbrev t_Ru_beginPar_17 : List UInt8 := 155 :: 0 :: 23 :: t_Ru_beginPar_20
abbrev t_Ru_beginPar_16 : List UInt8 := 28 :: t_Ru_beginPar_17
abbrev t_Ru_beginPar_13 : List UInt8 := 163 :: 0 :: 27 :: t_Ru_beginPar_16
abbrev t_Ru_beginPar_10 : List UInt8 := 17 :: 1 :: 244 :: t_Ru_beginPar_13
abbrev t_Ru_beginPar_9 : List UInt8 := 29 :: t_Ru_beginPar_10
abbrev t_Ru_beginPar_8 : List UInt8 := 62 :: t_Ru_beginPar_9
abbrev t_Ru_beginPar_7 : List UInt8 := 3 :: t_Ru_beginPar_8
abbrev t_Ru_beginPar_6 : List UInt8 := 61 :: t_Ru_beginPar_7
abbrev t_Ru_beginPar_5 : List UInt8 := 46 :: t_Ru_beginPar_6
abbrev t_Ru_beginPar_4 : List UInt8 := 27 :: t_Ru_beginPar_5
abbrev t_Ru_beginPar_1 : List UInt8 := 180 :: 0 :: 26 :: t_Ru_beginPar_4
abbrev t_Ru_beginPar_0 : List UInt8 := 42 :: t_Ru_beginPar_1
theorem a_Ru_beginPar_0 : dk_at b_Ru_beginPar 0 t_Ru_beginPar_0 := dk_start (by decide +kernel)
theorem a_Ru_beginPar_1 : dk_at b_Ru_beginPar 1 t_Ru_beginPar_1 := dk_go 1 a_Ru_beginPar_0 rfl
theorem a_Ru_beginPar_4 : dk_at b_Ru_beginPar 4 t_Ru_beginPar_4 := dk_go 3 a_Ru_beginPar_1 rfl
theorem a_Ru_beginPar_5 : dk_at b_Ru_beginPar 5 t_Ru_beginPar_5 := dk_go 1 a_Ru_beginPar_4 rfl
theorem a_Ru_beginPar_6 : dk_at b_Ru_beginPar 6 t_Ru_beginPar_6 := dk_go 1 a_Ru_beginPar_5 rfl
theorem a_Ru_beginPar_7 : dk_at b_Ru_beginPar 7 t_Ru_beginPar_7 := dk_go 1 a_Ru_beginPar_6 rfl
theorem a_Ru_beginPar_8 : dk_at b_Ru_beginPar 8 t_Ru_beginPar_8 := dk_go 1 a_Ru_beginPar_7 rfl
theorem a_Ru_beginPar_9 : dk_at b_Ru_beginPar 9 t_Ru_beginPar_9 := dk_go 1 a_Ru_beginPar_8 rfl
theorem a_Ru_beginPar_10 : dk_at b_Ru_beginPar 10 t_Ru_beginPar_10 := dk_go 1 a_Ru_beginPar_9 rfl
theorem a_Ru_beginPar_13 : dk_at b_Ru_beginPar 13 t_Ru_beginPar_13 := dk_go 3 a_Ru_beginPar_10 rfl
theorem a_Ru_beginPar_16 : dk_at b_Ru_beginPar 16 t_Ru_beginPar_16 := dk_go 3 a_Ru_beginPar_13 rfl
theorem a_Ru_beginPar_17 : dk_at b_Ru_beginPar 17 t_Ru_beginPar_17 := dk_go 1 a_Ru_beginPar_16 rfl
theorem a_Ru_beginPar_20 : dk_at b_Ru_beginPar 20 t_Ru_beginPar_20 := dk_go 3 a_Ru_beginPar_17 rfl
theorem a_Ru_beginPar_21 : dk_at b_Ru_beginPar 21 t_Ru_beginPar_21 := dk_go 1 a_Ru_beginPar_20 rfl
theorem a_Ru_beginPar_24 : dk_at b_Ru_beginPar 24 t_Ru_beginPar_24 := dk_go 3 a_Ru_beginPar_21 rfl
theorem a_Ru_beginPar_25 : dk_at b_Ru_beginPar 25 t_Ru_beginPar_25 := dk_go 1 a_Ru_beginPar_24 rfl
theorem a_Ru_beginPar_26 : dk_at b_Ru_beginPar 26 t_Ru_beginPar_26 := dk_go 1 a_Ru_beginPar_25 rfl
theorem a_Ru_beginPar_27 : dk_at b_Ru_beginPar 27 t_Ru_beginPar_27 := dk_go 1 a_Ru_beginPar_26 rfl
theorem a_Ru_beginPar_28 : dk_at b_Ru_beginPar 28 t_Ru_beginPar_28 := dk_go 1 a_Ru_beginPar_27 rfl
theorem a_Ru_beginPar_31 : dk_at b_Ru_beginPar 31 t_Ru_beginPar_31 := dk_go 3 a_Ru_beginPar_28 rfl
theorem a_Ru_beginPar_32 : dk_at b_Ru_beginPar 32 t_Ru_beginPar_32 := dk_go 1 a_Ru_beginPar_31 rfl
theorem a_Ru_beginPar_33 : dk_at b_Ru_beginPar 33 t_Ru_beginPar_33 := dk_go 1 a_Ru_beginPar_32 rfl
theorem a_Ru_beginPar_34 : dk_at b_Ru_beginPar 34 t_Ru_beginPar_34 := dk_go 1 a_Ru_beginPar_33 rfl
theorem a_Ru_beginPar_37 : dk_at b_Ru_beginPar 37 t_Ru_beginPar_37 := dk_go 3 a_Ru_beginPar_34 rfl
theorem a_Ru_beginPar_40 : dk_at b_Ru_beginPar 40 t_Ru_beginPar_40 := dk_go 3 a_Ru_beginPar_37 rfl
theorem a_Ru_beginPar_41 : dk_at b_Ru_beginPar 41 t_Ru_beginPar_41 := dk_go 1 a_Ru_beginPar_40 rfl
theorem a_Ru_beginPar_42 : dk_at b_Ru_beginPar 42 t_Ru_beginPar_42 := dk_go 1 a_Ru_beginPar_41 rfl
theorem a_Ru_beginPar_43 : dk_at b_Ru_beginPar 43 t_Ru_beginPar_43 := dk_go 1 a_Ru_beginPar_42 rfl
theorem a_Ru_beginPar_46 : dk_at b_Ru_beginPar 46 t_Ru_beginPar_46 := dk_go 3 a_Ru_beginPar_43 rfl
theorem d_Ru_beginPar_0 : decode b_Ru_beginPar 0 = .ok (.aload_n 0, 1) := dk_0 a_Ru_beginPar_0 (dko_42 _)
theorem d_Ru_beginPar_1 : decode b_Ru_beginPar 1 = .ok (.getfield 26, 3) := dk_U2 a_Ru_beginPar_1 (dko_180 _) rfl
theorem d_Ru_beginPar_4 : decode b_Ru_beginPar 4 = .ok (.iload_n 1, 1) := dk_0 a_Ru_beginPar_4 (dko_27 _)
theorem d_Ru_beginPar_5 : decode b_Ru_beginPar 5 = .ok (.iaload, 1) := dk_0 a_Ru_beginPar_5 (dko_46 _)
theorem d_Ru_beginPar_6 : decode b_Ru_beginPar 6 = .ok (.istore_n 2, 1) := dk_0 a_Ru_beginPar_6 (dko_61 _)
theorem d_Ru_beginPar_7 : decode b_Ru_beginPar 7 = .ok (.iconst 0, 1) := dk_0 a_Ru_beginPar_7 (dko_3 _)
theorem d_Ru_beginPar_8 : decode b_Ru_beginPar 8 = .ok (.istore_n 3, 1) := dk_0 a_Ru_beginPar_8 (dko_62 _)
theorem d_Ru_beginPar_9 : decode b_Ru_beginPar 9 = .ok (.iload_n 3, 1) := dk_0 a_Ru_beginPar_9 (dko_29 _)
theorem d_Ru_beginPar_10 : decode b_Ru_beginPar 10 = .ok (.sipush 500, 3) := dk_S2 a_Ru_beginPar_10 (dko_17 _) (by decide +kernel)
theorem d_Ru_beginPar_13 : decode b_Ru_beginPar 13 = .ok (.if_icmp .gt 27, 3) := dk_S2 a_Ru_beginPar_13 (dko_163 _) (by decide +kernel)
theorem d_Ru_beginPar_16 : decode b_Ru_beginPar 16 = .ok (.iload_n 2, 1) := dk_0 a_Ru_beginPar_16 (dko_28 _)
theorem d_Ru_beginPar_17 : decode b_Ru_beginPar 17 = .ok (.ifCond .lt 23, 3) := dk_S2 a_Ru_beginPar_17 (dko_155 _) (by decide +kernel)
theorem d_Ru_beginPar_20 : decode b_Ru_beginPar 20 = .ok (.aload_n 0, 1) := dk_0 a_Ru_beginPar_20 (dko_42 _)
theorem d_Ru_beginPar_21 : decode b_Ru_beginPar 21 = .ok (.getfield 32, 3) := dk_U2 a_Ru_beginPar_21 (dko_180 _) rfl
theorem d_Ru_beginPar_24 : decode b_Ru_beginPar 24 = .ok (.iload_n 2, 1) := dk_0 a_Ru_beginPar_24 (dko_28 _)
theorem d_Ru_beginPar_25 : decode b_Ru_beginPar 25 = .ok (.iconst 0, 1) := dk_0 a_Ru_beginPar_25 (dko_3 _)
theorem d_Ru_beginPar_26 : decode b_Ru_beginPar 26 = .ok (.iastore, 1) := dk_0 a_Ru_beginPar_26 (dko_79 _)
theorem d_Ru_beginPar_27 : decode b_Ru_beginPar 27 = .ok (.aload_n 0, 1) := dk_0 a_Ru_beginPar_27 (dko_42 _)
theorem d_Ru_beginPar_28 : decode b_Ru_beginPar 28 = .ok (.getfield 29, 3) := dk_U2 a_Ru_beginPar_28 (dko_180 _) rfl
theorem d_Ru_beginPar_31 : decode b_Ru_beginPar 31 = .ok (.iload_n 2, 1) := dk_0 a_Ru_beginPar_31 (dko_28 _)
theorem d_Ru_beginPar_32 : decode b_Ru_beginPar 32 = .ok (.iaload, 1) := dk_0 a_Ru_beginPar_32 (dko_46 _)
theorem d_Ru_beginPar_33 : decode b_Ru_beginPar 33 = .ok (.istore_n 2, 1) := dk_0 a_Ru_beginPar_33 (dko_61 _)
theorem d_Ru_beginPar_34 : decode b_Ru_beginPar 34 = .ok (.iinc 3 1, 3) := dk_US a_Ru_beginPar_34 (dko_132 _) (by decide +kernel)
theorem d_Ru_beginPar_37 : decode b_Ru_beginPar 37 = .ok (.goto (-28), 3) := dk_S2 a_Ru_beginPar_37 (dko_167 _) (by decide +kernel)
theorem d_Ru_beginPar_40 : decode b_Ru_beginPar 40 = .ok (.aload_n 0, 1) := dk_0 a_Ru_beginPar_40 (dko_42 _)
theorem d_Ru_beginPar_41 : decode b_Ru_beginPar 41 = .ok (.iload_n 1, 1) := dk_0 a_Ru_beginPar_41 (dko_27 _)
theorem d_Ru_beginPar_42 : decode b_Ru_beginPar 42 = .ok (.iconst (-1), 1) := dk_0 a_Ru_beginPar_42 (dko_2 _)
theorem d_Ru_beginPar_43 : decode b_Ru_beginPar 43 = .ok (.invokevirtual 180, 3) := dk_U2 a_Ru_beginPar_43 (dko_182 _) rfl
theorem d_Ru_beginPar_46 : decode b_Ru_beginPar 46 = .ok (.ireturn, 1) := dk_0 a_Ru_beginPar_46 (dko_172 _)
set_option maxHeartbeats 4000000 in
set_option maxRecDepth 100000 in
theorem ok_Ru_beginPar (pc : Nat) : OpS mt mi_Ru_beginPar pc (cs_Ru_beginPar pc) := (os_n (os_n (os_n (os_n (os_l (so_aload_n d_Ru_beginPar_0 rfl)) (os_n (os_l (so_get (C := R_Ru) (T := F_Ru) (N := 21) (j := 7) in_Ru rfl (by decide) mw_520 d_Ru_beginPar_1)) (os_l (so_iload_n d_Ru_beginPar_4 rfl)))) (os_n (os_n (os_l (so_iaload d_Ru_beginPar_5)) (os_l (so_istore_n d_Ru_beginPar_6 rfl (by decide)))) (os_n (os_l (so_iconst d_Ru_beginPar_7 (by decide))) (os_l (so_istore_n d_Ru_beginPar_8 rfl (by decide)))))) (os_n (os_n (os_l (so_iload_n d_Ru_beginPar_9 rfl)) (os_n (os_l (so_sipush d_Ru_beginPar_10 (by decide))) (os_l (so_icgt d_Ru_beginPar_13 (by decide))))) (os_n (os_n (os_l (so_iload_n d_Ru_beginPar_16 rfl)) (os_l (so_iflt d_Ru_beginPar_17 (by decide)))) (os_n (os_l (so_aload_n d_Ru_beginPar_20 rfl)) (os_l (so_get (C := R_Ru) (T := F_Ru) (N := 21) (j := 9) in_Ru rfl (by decide) mw_522 d_Ru_beginPar_21)))))) (os_n (os_n (os_n (os_l (so_iload_n d_Ru_beginPar_24 rfl)) (os_n (os_l (so_iconst d_Ru_beginPar_25 (by decide))) (os_l (so_iastore d_Ru_beginPar_26)))) (os_n (os_n (os_l (so_aload_n d_Ru_beginPar_27 rfl)) (os_l (so_get (C := R_Ru) (T := F_Ru) (N := 21) (j := 8) in_Ru rfl (by decide) mw_521 d_Ru_beginPar_28))) (os_n (os_l (so_iload_n d_Ru_beginPar_31 rfl)) (os_l (so_iaload d_Ru_beginPar_32))))) (os_n (os_n (os_n (os_l (so_istore_n d_Ru_beginPar_33 rfl (by decide))) (os_l (so_iinc d_Ru_beginPar_34 (by decide) (by decide)))) (os_n (os_l (so_goto d_Ru_beginPar_37 (by decide))) (os_l (so_aload_n d_Ru_beginPar_40 rfl)))) (os_n (os_n (os_l (so_iload_n d_Ru_beginPar_41 rfl)) (os_l (so_iconst d_Ru_beginPar_42 (by decide)))) (os_n (os_l (so_callV (iv := mi_Ru_goInside) rfl rfl rfl mw_1413 mw_1415 sl_79 mw_11 mw_1416 ⟨by decide +kernel, by decide +kernel, by decide +kernel⟩ (by decide) d_Ru_beginPar_43)) (os_l (so_ireturn rfl d_Ru_beginPar_46)))))))
abbrev t_Ru_beginReckoned_279 : List UInt8 := 172 :: []
abbrev t_Ru_beginReckoned_276 : List UInt8 := 182 :: 0 :: 180 :: t_Ru_beginReckoned_279
abbrev t_Ru_beginReckoned_275 : List UInt8 := 46 :: t_Ru_beginReckoned_276
abbrev t_Ru_beginReckoned_274 : List UInt8 := 46 :: t_Ru_beginReckoned_275
abbrev t_Ru_beginReckoned_273 : List UInt8 := 27 :: t_Ru_beginReckoned_274
abbrev t_Ru_beginReckoned_270 : List UInt8 := 180 :: 0 :: 26 :: t_Ru_beginReckoned_273
abbrev t_Ru_beginReckoned_269 : List UInt8 := 42 :: t_Ru_beginReckoned_270
abbrev t_Ru_beginReckoned_266 : List UInt8 := 180 :: 0 :: 29 :: t_Ru_beginReckoned_269
abbrev t_Ru_beginReckoned_265 : List UInt8 := 42 :: t_Ru_beginReckoned_266
abbrev t_Ru_beginReckoned_262 : List UInt8 := 167 :: 0 :: 14 :: t_Ru_beginReckoned_265
abbrev t_Ru_beginReckoned_261 : List UInt8 := 46 :: t_Ru_beginReckoned_262
abbrev t_Ru_beginReckoned_260 : List UInt8 := 27 :: t_Ru_beginReckoned_261
abbrev t_Ru_beginReckoned_257 : List UInt8 := 180 :: 0 :: 26 :: t_Ru_beginReckoned_260
abbrev t_Ru_beginReckoned_256 : List UInt8 := 42 :: t_Ru_beginReckoned_257
abbrev t_Ru_beginReckoned_253 : List UInt8 := 153 :: 0 :: 12 :: t_Ru_beginReckoned_256
abbrev t_Ru_beginReckoned_252 : List UInt8 := 148 :: t_Ru_beginReckoned_253
abbrev t_Ru_beginReckoned_251 : List UInt8 := 9 :: t_Ru_beginReckoned_252
abbrev t_Ru_beginReckoned_249 : List UInt8 := 22 :: 4 :: t_Ru_beginReckoned_251
abbrev t_Ru_beginReckoned_248 : List UInt8 := 27 :: t_Ru_beginReckoned_249
abbrev t_Ru_beginReckoned_247 : List UInt8 := 42 :: t_Ru_beginReckoned_248
abbrev t_Ru_beginReckoned_244 : List UInt8 := 182 :: 0 :: 116 :: t_Ru_beginReckoned_247
abbrev t_Ru_beginReckoned_243 : List UInt8 := 6 :: t_Ru_beginReckoned_244
abbrev t_Ru_beginReckoned_242 : List UInt8 := 29 :: t_Ru_beginReckoned_243
abbrev t_Ru_beginReckoned_239 : List UInt8 := 180 :: 0 :: 111 :: t_Ru_beginReckoned_242
abbrev t_Ru_beginReckoned_236 : List UInt8 := 180 :: 0 :: 62 :: t_Ru_beginReckoned_239
abbrev t_Ru_beginReckoned_235 : List UInt8 := 42 :: t_Ru_beginReckoned_236
abbrev t_Ru_beginReckoned_232 : List UInt8 := 180 :: 0 :: 58 :: t_Ru_beginReckoned_235
abbrev t_Ru_beginReckoned_231 : List UInt8 := 42 :: t_Ru_beginReckoned_232
abbrev t_Ru_beginReckoned_228 : List UInt8 := 154 :: 0 :: 19 :: t_Ru_beginReckoned_231
abbrev t_Ru_beginReckoned_227 : List UInt8 := 148 :: t_Ru_beginReckoned_228
abbrev t_Ru_beginReckoned_226 : List UInt8 := 9 :: t_Ru_beginReckoned_227
abbrev t_Ru_beginReckoned_224 : List UInt8 := 22 :: 4 :: t_Ru_beginReckoned_226
abbrev t_Ru_beginReckoned_223 : List UInt8 := 172 :: t_Ru_beginReckoned_224
abbrev t_Ru_beginReckoned_220 : List UInt8 := 182 :: 0 :: 180 :: t_Ru_beginReckoned_223
abbrev t_Ru_beginReckoned_219 : List UInt8 := 46 :: t_Ru_beginReckoned_220
abbrev t_Ru_beginReckoned_218 : List UInt8 := 46 :: t_Ru_beginReckoned_219
abbrev t_Ru_beginReckoned_217 : List UInt8 := 27 :: t_Ru_beginReckoned_218
abbrev t_Ru_beginReckoned_214 : List UInt8 := 180 :: 0 :: 26 :: t_Ru_beginReckoned_217
abbrev t_Ru_beginReckoned_213 : List UInt8 := 42 :: t_Ru_beginReckoned_214
abbrev t_Ru_beginReckoned_210 : List UInt8 := 180 :: 0 :: 29 :: t_Ru_beginReckoned_213
abbrev t_Ru_beginReckoned_209 : List UInt8 := 42 :: t_Ru_beginReckoned_210
abbrev t_Ru_beginReckoned_206 : List UInt8 := 167 :: 0 :: 14 :: t_Ru_beginReckoned_209
abbrev t_Ru_beginReckoned_205 : List UInt8 := 46 :: t_Ru_beginReckoned_206
abbrev t_Ru_beginReckoned_204 : List UInt8 := 27 :: t_Ru_beginReckoned_205
abbrev t_Ru_beginReckoned_201 : List UInt8 := 180 :: 0 :: 26 :: t_Ru_beginReckoned_204
abbrev t_Ru_beginReckoned_200 : List UInt8 := 42 :: t_Ru_beginReckoned_201
abbrev t_Ru_beginReckoned_197 : List UInt8 := 153 :: 0 :: 12 :: t_Ru_beginReckoned_200
abbrev t_Ru_beginReckoned_196 : List UInt8 := 148 :: t_Ru_beginReckoned_197
abbrev t_Ru_beginReckoned_195 : List UInt8 := 9 :: t_Ru_beginReckoned_196
abbrev t_Ru_beginReckoned_193 : List UInt8 := 22 :: 4 :: t_Ru_beginReckoned_195
abbrev t_Ru_beginReckoned_192 : List UInt8 := 27 :: t_Ru_beginReckoned_193
abbrev t_Ru_beginReckoned_191 : List UInt8 := 42 :: t_Ru_beginReckoned_192
abbrev t_Ru_beginReckoned_190 : List UInt8 := 172 :: t_Ru_beginReckoned_191
abbrev t_Ru_beginReckoned_187 : List UInt8 := 182 :: 0 :: 180 :: t_Ru_beginReckoned_190
abbrev t_Ru_beginReckoned_186 : List UInt8 := 46 :: t_Ru_beginReckoned_187
abbrev t_Ru_beginReckoned_185 : List UInt8 := 27 :: t_Ru_beginReckoned_186
abbrev t_Ru_beginReckoned_182 : List UInt8 := 180 :: 0 :: 26 :: t_Ru_beginReckoned_185
abbrev t_Ru_beginReckoned_181 : List UInt8 := 42 :: t_Ru_beginReckoned_182
abbrev t_Ru_beginReckoned_180 : List UInt8 := 27 :: t_Ru_beginReckoned_181
abbrev t_Ru_beginReckoned_179 : List UInt8 := 42 :: t_Ru_beginReckoned_180
abbrev t_Ru_beginReckoned_178 : List UInt8 := 80 :: t_Ru_beginReckoned_179
abbrev t_Ru_beginReckoned_177 : List UInt8 := 109 :: t_Ru_beginReckoned_178
abbrev t_Ru_beginReckoned_174 : List UInt8 := 20 :: 0 :: 187 :: t_Ru_beginReckoned_177
abbrev t_Ru_beginReckoned_172 : List UInt8 := 22 :: 4 :: t_Ru_beginReckoned_174
abbrev t_Ru_beginReckoned_171 : List UInt8 := 27 :: t_Ru_beginReckoned_172
abbrev t_Ru_beginReckoned_168 : List UInt8 := 180 :: 0 :: 38 :: t_Ru_beginReckoned_171
abbrev t_Ru_beginReckoned_167 : List UInt8 := 42 :: t_Ru_beginReckoned_168
abbrev t_Ru_beginReckoned_166 : List UInt8 := 172 :: t_Ru_beginReckoned_167
abbrev t_Ru_beginReckoned_163 : List UInt8 := 182 :: 0 :: 189 :: t_Ru_beginReckoned_166
abbrev t_Ru_beginReckoned_161 : List UInt8 := 22 :: 4 :: t_Ru_beginReckoned_163
abbrev t_Ru_beginReckoned_160 : List UInt8 := 27 :: t_Ru_beginReckoned_161
abbrev t_Ru_beginReckoned_159 : List UInt8 := 42 :: t_Ru_beginReckoned_160
abbrev t_Ru_beginReckoned_158 : List UInt8 := 172 :: t_Ru_beginReckoned_159
abbrev t_Ru_beginReckoned_155 : List UInt8 := 182 :: 0 :: 174 :: t_Ru_beginReckoned_158
abbrev t_Ru_beginReckoned_154 : List UInt8 := 27 :: t_Ru_beginReckoned_155
abbrev t_Ru_beginReckoned_153 : List UInt8 := 42 :: t_Ru_beginReckoned_154
abbrev t_Ru_beginReckoned_150 : List UInt8 := 167 :: 0 :: 8 :: t_Ru_beginReckoned_153
abbrev t_Ru_beginReckoned_149 : List UInt8 := 4 :: t_Ru_beginReckoned_150
abbrev t_Ru_beginReckoned_146 : List UInt8 := 153 :: 0 :: 7 :: t_Ru_beginReckoned_149
abbrev t_Ru_beginReckoned_145 : List UInt8 := 148 :: t_Ru_beginReckoned_146
abbrev t_Ru_beginReckoned_144 : List UInt8 := 9 :: t_Ru_beginReckoned_145
abbrev t_Ru_beginReckoned_142 : List UInt8 := 22 :: 4 :: t_Ru_beginReckoned_144
abbrev t_Ru_beginReckoned_141 : List UInt8 := 172 :: t_Ru_beginReckoned_142
abbrev t_Ru_beginReckoned_138 : List UInt8 := 182 :: 0 :: 174 :: t_Ru_beginReckoned_141
abbrev t_Ru_beginReckoned_137 : List UInt8 := 27 :: t_Ru_beginReckoned_138
abbrev t_Ru_beginReckoned_136 : List UInt8 := 42 :: t_Ru_beginReckoned_137
abbrev t_Ru_beginReckoned_133 : List UInt8 := 167 :: 0 :: 8 :: t_Ru_beginReckoned_136
abbrev t_Ru_beginReckoned_132 : List UInt8 := 4 :: t_Ru_beginReckoned_133
abbrev t_Ru_beginReckoned_129 : List UInt8 := 157 :: 0 :: 7 :: t_Ru_beginReckoned_132
abbrev t_Ru_beginReckoned_128 : List UInt8 := 148 :: t_Ru_beginReckoned_129
abbrev t_Ru_beginReckoned_125 : List UInt8 := 180 :: 0 :: 85 :: t_Ru_beginReckoned_128
abbrev t_Ru_beginReckoned_124 : List UInt8 := 42 :: t_Ru_beginReckoned_125
abbrev t_Ru_beginReckoned_123 : List UInt8 := 47 :: t_Ru_beginReckoned_124
abbrev t_Ru_beginReckoned_122 : List UInt8 := 27 :: t_Ru_beginReckoned_123
abbrev t_Ru_beginReckoned_119 : List UInt8 := 180 :: 0 :: 38 :: t_Ru_beginReckoned_122
abbrev t_Ru_beginReckoned_118 : List UInt8 := 42 :: t_Ru_beginReckoned_119
abbrev t_Ru_beginReckoned_117 : List UInt8 := 80 :: t_Ru_beginReckoned_118
abbrev t_Ru_beginReckoned_116 : List UInt8 := 97 :: t_Ru_beginReckoned_117
abbrev t_Ru_beginReckoned_115 : List UInt8 := 109 :: t_Ru_beginReckoned_116
abbrev t_Ru_beginReckoned_112 : List UInt8 := 20 :: 0 :: 187 :: t_Ru_beginReckoned_115
abbrev t_Ru_beginReckoned_110 : List UInt8 := 22 :: 4 :: t_Ru_beginReckoned_112
abbrev t_Ru_beginReckoned_107 : List UInt8 := 180 :: 0 :: 85 :: t_Ru_beginReckoned_110
abbrev t_Ru_beginReckoned_106 : List UInt8 := 42 :: t_Ru_beginReckoned_107
abbrev t_Ru_beginReckoned_105 : List UInt8 := 27 :: t_Ru_beginReckoned_106
abbrev t_Ru_beginReckoned_102 : List UInt8 := 180 :: 0 :: 38 :: t_Ru_beginReckoned_105
abbrev t_Ru_beginReckoned_101 : List UInt8 := 42 :: t_Ru_beginReckoned_102
abbrev t_Ru_beginReckoned_100 : List UInt8 := 172 :: t_Ru_beginReckoned_101
abbrev t_Ru_beginReckoned_99 : List UInt8 := 4 :: t_Ru_beginReckoned_100
abbrev t_Ru_beginReckoned_96 : List UInt8 := 182 :: 0 :: 183 :: t_Ru_beginReckoned_99
abbrev t_Ru_beginReckoned_94 : List UInt8 := 22 :: 4 :: t_Ru_beginReckoned_96
abbrev t_Ru_beginReckoned_93 : List UInt8 := 29 :: t_Ru_beginReckoned_94
abbrev t_Ru_beginReckoned_92 : List UInt8 := 42 :: t_Ru_beginReckoned_93
abbrev t_Ru_beginReckoned_41 : List UInt8 := 170 :: 0 :: 0 :: 0 :: 0 :: 0 :: 183 :: 0 :: 0 :: 0 :: 11 :: 0 :: 0 :: 0 :: 19 :: 0 :: 0 :: 0 :: 51 :: 0 :: 0 :: 0 :: 60 :: 0 :: 0 :: 0 :: 101 :: 0 :: 0 :: 0 :: 118 :: 0 :: 0 :: 0 :: 183 :: 0 :: 0 :: 0 :: 183 :: 0 :: 0 :: 0 :: 150 :: 0 :: 0 :: 0 :: 183 :: 0 :: 0 :: 0 :: 126 :: t_Ru_beginReckoned_92
abbrev t_Ru_beginReckoned_40 : List UInt8 := 28 :: t_Ru_beginReckoned_41
abbrev t_Ru_beginReckoned_39 : List UInt8 := 172 :: t_Ru_beginReckoned_40
abbrev t_Ru_beginReckoned_38 : List UInt8 := 3 :: t_Ru_beginReckoned_39
abbrev t_Ru_beginReckoned_35 : List UInt8 := 153 :: 0 :: 5 :: t_Ru_beginReckoned_38
abbrev t_Ru_beginReckoned_32 : List UInt8 := 182 :: 0 :: 103 :: t_Ru_beginReckoned_35
abbrev t_Ru_beginReckoned_31 : List UInt8 := 42 :: t_Ru_beginReckoned_32
abbrev t_Ru_beginReckoned_29 : List UInt8 := 55 :: 4 :: t_Ru_beginReckoned_31
abbrev t_Ru_beginReckoned_26 : List UInt8 := 182 :: 0 :: 134 :: t_Ru_beginReckoned_29
abbrev t_Ru_beginReckoned_25 : List UInt8 := 46 :: t_Ru_beginReckoned_26
abbrev t_Ru_beginReckoned_24 : List UInt8 := 29 :: t_Ru_beginReckoned_25
abbrev t_Ru_beginReckoned_21 : List UInt8 := 180 :: 0 :: 131 :: t_Ru_beginReckoned_24
abbrev t_Ru_beginReckoned_18 : List UInt8 := 180 :: 0 :: 12 :: t_Ru_beginReckoned_21
abbrev t_Ru_beginReckoned_17 : List UInt8 := 42 :: t_Ru_beginReckoned_18
abbrev t_Ru_beginReckoned_16 : List UInt8 := 46 :: t_Ru_beginReckoned_17
abbrev t_Ru_beginReckoned_15 : List UInt8 := 29 :: t_Ru_beginReckoned_16
abbrev t_Ru_beginReckoned_12 : List UInt8 := 180 :: 0 :: 128 :: t_Ru_beginReckoned_15
abbrev t_Ru_beginReckoned_9 : List UInt8 := 180 :: 0 :: 12 :: t_Ru_beginReckoned_12
abbrev t_Ru_beginReckoned_8 : List UInt8 := 42 :: t_Ru_beginReckoned_9
abbrev t_Ru_beginReckoned_7 : List UInt8 := 42 :: t_Ru_beginReckoned_8
abbrev t_Ru_beginReckoned_6 : List UInt8 := 62 :: t_Ru_beginReckoned_7
abbrev t_Ru_beginReckoned_5 : List UInt8 := 46 :: t_Ru_beginReckoned_6
abbrev t_Ru_beginReckoned_4 : List UInt8 := 27 :: t_Ru_beginReckoned_5
abbrev t_Ru_beginReckoned_1 : List UInt8 := 180 :: 0 :: 22 :: t_Ru_beginReckoned_4
abbrev t_Ru_beginReckoned_0 : List UInt8 := 42 :: t_Ru_beginReckoned_1
theorem a_Ru_beginReckoned_0 : dk_at b_Ru_beginReckoned 0 t_Ru_beginReckoned_0 := dk_start (by decide +kernel)
theorem a_Ru_beginReckoned_1 : dk_at b_Ru_beginReckoned 1 t_Ru_beginReckoned_1 := dk_go 1 a_Ru_beginReckoned_0 rfl
theorem a_Ru_beginReckoned_4 : dk_at b_Ru_beginReckoned 4 t_Ru_beginReckoned_4 := dk_go 3 a_Ru_beginReckoned_1 rfl
theorem a_Ru_beginReckoned_5 : dk_at b_Ru_beginReckoned 5 t_Ru_beginReckoned_5 := dk_go 1 a_Ru_beginReckoned_4 rfl
theorem a_Ru_beginReckoned_6 : dk_at b_Ru_beginReckoned 6 t_Ru_beginReckoned_6 := dk_go 1 a_Ru_beginReckoned_5 rfl
theorem a_Ru_beginReckoned_7 : dk_at b_Ru_beginReckoned 7 t_Ru_beginReckoned_7 := dk_go 1 a_Ru_beginReckoned_6 rfl
theorem a_Ru_beginReckoned_8 : dk_at b_Ru_beginReckoned 8 t_Ru_beginReckoned_8 := dk_go 1 a_Ru_beginReckoned_7 rfl
theorem a_Ru_beginReckoned_9 : dk_at b_Ru_beginReckoned 9 t_Ru_beginReckoned_9 := dk_go 1 a_Ru_beginReckoned_8 rfl
theorem a_Ru_beginReckoned_12 : dk_at b_Ru_beginReckoned 12 t_Ru_beginReckoned_12 := dk_go 3 a_Ru_beginReckoned_9 rfl
theorem a_Ru_beginReckoned_15 : dk_at b_Ru_beginReckoned 15 t_Ru_beginReckoned_15 := dk_go 3 a_Ru_beginReckoned_12 rfl
theorem a_Ru_beginReckoned_16 : dk_at b_Ru_beginReckoned 16 t_Ru_beginReckoned_16 := dk_go 1 a_Ru_beginReckoned_15 rfl
theorem a_Ru_beginReckoned_17 : dk_at b_Ru_beginReckoned 17 t_Ru_beginReckoned_17 := dk_go 1 a_Ru_beginReckoned_16 rfl
theorem a_Ru_beginReckoned_18 : dk_at b_Ru_beginReckoned 18 t_Ru_beginReckoned_18 := dk_go 1 a_Ru_beginReckoned_17 rfl
theorem a_Ru_beginReckoned_21 : dk_at b_Ru_beginReckoned 21 t_Ru_beginReckoned_21 := dk_go 3 a_Ru_beginReckoned_18 rfl
theorem a_Ru_beginReckoned_24 : dk_at b_Ru_beginReckoned 24 t_Ru_beginReckoned_24 := dk_go 3 a_Ru_beginReckoned_21 rfl
theorem a_Ru_beginReckoned_25 : dk_at b_Ru_beginReckoned 25 t_Ru_beginReckoned_25 := dk_go 1 a_Ru_beginReckoned_24 rfl
theorem a_Ru_beginReckoned_26 : dk_at b_Ru_beginReckoned 26 t_Ru_beginReckoned_26 := dk_go 1 a_Ru_beginReckoned_25 rfl
theorem a_Ru_beginReckoned_29 : dk_at b_Ru_beginReckoned 29 t_Ru_beginReckoned_29 := dk_go 3 a_Ru_beginReckoned_26 rfl
theorem a_Ru_beginReckoned_31 : dk_at b_Ru_beginReckoned 31 t_Ru_beginReckoned_31 := dk_go 2 a_Ru_beginReckoned_29 rfl
theorem a_Ru_beginReckoned_32 : dk_at b_Ru_beginReckoned 32 t_Ru_beginReckoned_32 := dk_go 1 a_Ru_beginReckoned_31 rfl
theorem a_Ru_beginReckoned_35 : dk_at b_Ru_beginReckoned 35 t_Ru_beginReckoned_35 := dk_go 3 a_Ru_beginReckoned_32 rfl
theorem a_Ru_beginReckoned_38 : dk_at b_Ru_beginReckoned 38 t_Ru_beginReckoned_38 := dk_go 3 a_Ru_beginReckoned_35 rfl
theorem a_Ru_beginReckoned_39 : dk_at b_Ru_beginReckoned 39 t_Ru_beginReckoned_39 := dk_go 1 a_Ru_beginReckoned_38 rfl
theorem a_Ru_beginReckoned_40 : dk_at b_Ru_beginReckoned 40 t_Ru_beginReckoned_40 := dk_go 1 a_Ru_beginReckoned_39 rfl
theorem a_Ru_beginReckoned_41 : dk_at b_Ru_beginReckoned 41 t_Ru_beginReckoned_41 := dk_go 1 a_Ru_beginReckoned_40 rfl
theorem a_Ru_beginReckoned_92 : dk_at b_Ru_beginReckoned 92 t_Ru_beginReckoned_92 := dk_go 51 a_Ru_beginReckoned_41 rfl
theorem a_Ru_beginReckoned_93 : dk_at b_Ru_beginReckoned 93 t_Ru_beginReckoned_93 := dk_go 1 a_Ru_beginReckoned_92 rfl
theorem a_Ru_beginReckoned_94 : dk_at b_Ru_beginReckoned 94 t_Ru_beginReckoned_94 := dk_go 1 a_Ru_beginReckoned_93 rfl
theorem a_Ru_beginReckoned_96 : dk_at b_Ru_beginReckoned 96 t_Ru_beginReckoned_96 := dk_go 2 a_Ru_beginReckoned_94 rfl
theorem a_Ru_beginReckoned_99 : dk_at b_Ru_beginReckoned 99 t_Ru_beginReckoned_99 := dk_go 3 a_Ru_beginReckoned_96 rfl
theorem a_Ru_beginReckoned_100 : dk_at b_Ru_beginReckoned 100 t_Ru_beginReckoned_100 := dk_go 1 a_Ru_beginReckoned_99 rfl
theorem a_Ru_beginReckoned_101 : dk_at b_Ru_beginReckoned 101 t_Ru_beginReckoned_101 := dk_go 1 a_Ru_beginReckoned_100 rfl
theorem a_Ru_beginReckoned_102 : dk_at b_Ru_beginReckoned 102 t_Ru_beginReckoned_102 := dk_go 1 a_Ru_beginReckoned_101 rfl
theorem a_Ru_beginReckoned_105 : dk_at b_Ru_beginReckoned 105 t_Ru_beginReckoned_105 := dk_go 3 a_Ru_beginReckoned_102 rfl
theorem a_Ru_beginReckoned_106 : dk_at b_Ru_beginReckoned 106 t_Ru_beginReckoned_106 := dk_go 1 a_Ru_beginReckoned_105 rfl
theorem a_Ru_beginReckoned_107 : dk_at b_Ru_beginReckoned 107 t_Ru_beginReckoned_107 := dk_go 1 a_Ru_beginReckoned_106 rfl
theorem a_Ru_beginReckoned_110 : dk_at b_Ru_beginReckoned 110 t_Ru_beginReckoned_110 := dk_go 3 a_Ru_beginReckoned_107 rfl
theorem a_Ru_beginReckoned_112 : dk_at b_Ru_beginReckoned 112 t_Ru_beginReckoned_112 := dk_go 2 a_Ru_beginReckoned_110 rfl
theorem a_Ru_beginReckoned_115 : dk_at b_Ru_beginReckoned 115 t_Ru_beginReckoned_115 := dk_go 3 a_Ru_beginReckoned_112 rfl
theorem a_Ru_beginReckoned_116 : dk_at b_Ru_beginReckoned 116 t_Ru_beginReckoned_116 := dk_go 1 a_Ru_beginReckoned_115 rfl
theorem a_Ru_beginReckoned_117 : dk_at b_Ru_beginReckoned 117 t_Ru_beginReckoned_117 := dk_go 1 a_Ru_beginReckoned_116 rfl
theorem a_Ru_beginReckoned_118 : dk_at b_Ru_beginReckoned 118 t_Ru_beginReckoned_118 := dk_go 1 a_Ru_beginReckoned_117 rfl
theorem a_Ru_beginReckoned_119 : dk_at b_Ru_beginReckoned 119 t_Ru_beginReckoned_119 := dk_go 1 a_Ru_beginReckoned_118 rfl
theorem a_Ru_beginReckoned_122 : dk_at b_Ru_beginReckoned 122 t_Ru_beginReckoned_122 := dk_go 3 a_Ru_beginReckoned_119 rfl
theorem a_Ru_beginReckoned_123 : dk_at b_Ru_beginReckoned 123 t_Ru_beginReckoned_123 := dk_go 1 a_Ru_beginReckoned_122 rfl
theorem a_Ru_beginReckoned_124 : dk_at b_Ru_beginReckoned 124 t_Ru_beginReckoned_124 := dk_go 1 a_Ru_beginReckoned_123 rfl
theorem a_Ru_beginReckoned_125 : dk_at b_Ru_beginReckoned 125 t_Ru_beginReckoned_125 := dk_go 1 a_Ru_beginReckoned_124 rfl
theorem a_Ru_beginReckoned_128 : dk_at b_Ru_beginReckoned 128 t_Ru_beginReckoned_128 := dk_go 3 a_Ru_beginReckoned_125 rfl
theorem a_Ru_beginReckoned_129 : dk_at b_Ru_beginReckoned 129 t_Ru_beginReckoned_129 := dk_go 1 a_Ru_beginReckoned_128 rfl
theorem a_Ru_beginReckoned_132 : dk_at b_Ru_beginReckoned 132 t_Ru_beginReckoned_132 := dk_go 3 a_Ru_beginReckoned_129 rfl
theorem a_Ru_beginReckoned_133 : dk_at b_Ru_beginReckoned 133 t_Ru_beginReckoned_133 := dk_go 1 a_Ru_beginReckoned_132 rfl
theorem a_Ru_beginReckoned_136 : dk_at b_Ru_beginReckoned 136 t_Ru_beginReckoned_136 := dk_go 3 a_Ru_beginReckoned_133 rfl
theorem a_Ru_beginReckoned_137 : dk_at b_Ru_beginReckoned 137 t_Ru_beginReckoned_137 := dk_go 1 a_Ru_beginReckoned_136 rfl
theorem a_Ru_beginReckoned_138 : dk_at b_Ru_beginReckoned 138 t_Ru_beginReckoned_138 := dk_go 1 a_Ru_beginReckoned_137 rfl
theorem a_Ru_beginReckoned_141 : dk_at b_Ru_beginReckoned 141 t_Ru_beginReckoned_141 := dk_go 3 a_Ru_beginReckoned_138 rfl
theorem a_Ru_beginReckoned_142 : dk_at b_Ru_beginReckoned 142 t_Ru_beginReckoned_142 := dk_go 1 a_Ru_beginReckoned_141 rfl
theorem a_Ru_beginReckoned_144 : dk_at b_Ru_beginReckoned 144 t_Ru_beginReckoned_144 := dk_go 2 a_Ru_beginReckoned_142 rfl
theorem a_Ru_beginReckoned_145 : dk_at b_Ru_beginReckoned 145 t_Ru_beginReckoned_145 := dk_go 1 a_Ru_beginReckoned_144 rfl
theorem a_Ru_beginReckoned_146 : dk_at b_Ru_beginReckoned 146 t_Ru_beginReckoned_146 := dk_go 1 a_Ru_beginReckoned_145 rfl
theorem a_Ru_beginReckoned_149 : dk_at b_Ru_beginReckoned 149 t_Ru_beginReckoned_149 := dk_go 3 a_Ru_beginReckoned_146 rfl
theorem a_Ru_beginReckoned_150 : dk_at b_Ru_beginReckoned 150 t_Ru_beginReckoned_150 := dk_go 1 a_Ru_beginReckoned_149 rfl
theorem a_Ru_beginReckoned_153 : dk_at b_Ru_beginReckoned 153 t_Ru_beginReckoned_153 := dk_go 3 a_Ru_beginReckoned_150 rfl
theorem a_Ru_beginReckoned_154 : dk_at b_Ru_beginReckoned 154 t_Ru_beginReckoned_154 := dk_go 1 a_Ru_beginReckoned_153 rfl
theorem a_Ru_beginReckoned_155 : dk_at b_Ru_beginReckoned 155 t_Ru_beginReckoned_155 := dk_go 1 a_Ru_beginReckoned_154 rfl
theorem a_Ru_beginReckoned_158 : dk_at b_Ru_beginReckoned 158 t_Ru_beginReckoned_158 := dk_go 3 a_Ru_beginReckoned_155 rfl
theorem a_Ru_beginReckoned_159 : dk_at b_Ru_beginReckoned 159 t_Ru_beginReckoned_159 := dk_go 1 a_Ru_beginReckoned_158 rfl
theorem a_Ru_beginReckoned_160 : dk_at b_Ru_beginReckoned 160 t_Ru_beginReckoned_160 := dk_go 1 a_Ru_beginReckoned_159 rfl
theorem a_Ru_beginReckoned_161 : dk_at b_Ru_beginReckoned 161 t_Ru_beginReckoned_161 := dk_go 1 a_Ru_beginReckoned_160 rfl
theorem a_Ru_beginReckoned_163 : dk_at b_Ru_beginReckoned 163 t_Ru_beginReckoned_163 := dk_go 2 a_Ru_beginReckoned_161 rfl
theorem a_Ru_beginReckoned_166 : dk_at b_Ru_beginReckoned 166 t_Ru_beginReckoned_166 := dk_go 3 a_Ru_beginReckoned_163 rfl
theorem a_Ru_beginReckoned_167 : dk_at b_Ru_beginReckoned 167 t_Ru_beginReckoned_167 := dk_go 1 a_Ru_beginReckoned_166 rfl
theorem a_Ru_beginReckoned_168 : dk_at b_Ru_beginReckoned 168 t_Ru_beginReckoned_168 := dk_go 1 a_Ru_beginReckoned_167 rfl
theorem a_Ru_beginReckoned_171 : dk_at b_Ru_beginReckoned 171 t_Ru_beginReckoned_171 := dk_go 3 a_Ru_beginReckoned_168 rfl
theorem a_Ru_beginReckoned_172 : dk_at b_Ru_beginReckoned 172 t_Ru_beginReckoned_172 := dk_go 1 a_Ru_beginReckoned_171 rfl
theorem a_Ru_beginReckoned_174 : dk_at b_Ru_beginReckoned 174 t_Ru_beginReckoned_174 := dk_go 2 a_Ru_beginReckoned_172 rfl
theorem a_Ru_beginReckoned_177 : dk_at b_Ru_beginReckoned 177 t_Ru_beginReckoned_177 := dk_go 3 a_Ru_beginReckoned_174 rfl
theorem a_Ru_beginReckoned_178 : dk_at b_Ru_beginReckoned 178 t_Ru_beginReckoned_178 := dk_go 1 a_Ru_beginReckoned_177 rfl
theorem a_Ru_beginReckoned_179 : dk_at b_Ru_beginReckoned 179 t_Ru_beginReckoned_179 := dk_go 1 a_Ru_beginReckoned_178 rfl
theorem a_Ru_beginReckoned_180 : dk_at b_Ru_beginReckoned 180 t_Ru_beginReckoned_180 := dk_go 1 a_Ru_beginReckoned_179 rfl
theorem a_Ru_beginReckoned_181 : dk_at b_Ru_beginReckoned 181 t_Ru_beginReckoned_181 := dk_go 1 a_Ru_beginReckoned_180 rfl
theorem a_Ru_beginReckoned_182 : dk_at b_Ru_beginReckoned 182 t_Ru_beginReckoned_182 := dk_go 1 a_Ru_beginReckoned_181 rfl
theorem a_Ru_beginReckoned_185 : dk_at b_Ru_beginReckoned 185 t_Ru_beginReckoned_185 := dk_go 3 a_Ru_beginReckoned_182 rfl
theorem a_Ru_beginReckoned_186 : dk_at b_Ru_beginReckoned 186 t_Ru_beginReckoned_186 := dk_go 1 a_Ru_beginReckoned_185 rfl
theorem a_Ru_beginReckoned_187 : dk_at b_Ru_beginReckoned 187 t_Ru_beginReckoned_187 := dk_go 1 a_Ru_beginReckoned_186 rfl
theorem a_Ru_beginReckoned_190 : dk_at b_Ru_beginReckoned 190 t_Ru_beginReckoned_190 := dk_go 3 a_Ru_beginReckoned_187 rfl
theorem a_Ru_beginReckoned_191 : dk_at b_Ru_beginReckoned 191 t_Ru_beginReckoned_191 := dk_go 1 a_Ru_beginReckoned_190 rfl
theorem a_Ru_beginReckoned_192 : dk_at b_Ru_beginReckoned 192 t_Ru_beginReckoned_192 := dk_go 1 a_Ru_beginReckoned_191 rfl
theorem a_Ru_beginReckoned_193 : dk_at b_Ru_beginReckoned 193 t_Ru_beginReckoned_193 := dk_go 1 a_Ru_beginReckoned_192 rfl
theorem a_Ru_beginReckoned_195 : dk_at b_Ru_beginReckoned 195 t_Ru_beginReckoned_195 := dk_go 2 a_Ru_beginReckoned_193 rfl
theorem a_Ru_beginReckoned_196 : dk_at b_Ru_beginReckoned 196 t_Ru_beginReckoned_196 := dk_go 1 a_Ru_beginReckoned_195 rfl
theorem a_Ru_beginReckoned_197 : dk_at b_Ru_beginReckoned 197 t_Ru_beginReckoned_197 := dk_go 1 a_Ru_beginReckoned_196 rfl
theorem a_Ru_beginReckoned_200 : dk_at b_Ru_beginReckoned 200 t_Ru_beginReckoned_200 := dk_go 3 a_Ru_beginReckoned_197 rfl
theorem a_Ru_beginReckoned_201 : dk_at b_Ru_beginReckoned 201 t_Ru_beginReckoned_201 := dk_go 1 a_Ru_beginReckoned_200 rfl
theorem a_Ru_beginReckoned_204 : dk_at b_Ru_beginReckoned 204 t_Ru_beginReckoned_204 := dk_go 3 a_Ru_beginReckoned_201 rfl
theorem a_Ru_beginReckoned_205 : dk_at b_Ru_beginReckoned 205 t_Ru_beginReckoned_205 := dk_go 1 a_Ru_beginReckoned_204 rfl
theorem a_Ru_beginReckoned_206 : dk_at b_Ru_beginReckoned 206 t_Ru_beginReckoned_206 := dk_go 1 a_Ru_beginReckoned_205 rfl
theorem a_Ru_beginReckoned_209 : dk_at b_Ru_beginReckoned 209 t_Ru_beginReckoned_209 := dk_go 3 a_Ru_beginReckoned_206 rfl
theorem a_Ru_beginReckoned_210 : dk_at b_Ru_beginReckoned 210 t_Ru_beginReckoned_210 := dk_go 1 a_Ru_beginReckoned_209 rfl
theorem a_Ru_beginReckoned_213 : dk_at b_Ru_beginReckoned 213 t_Ru_beginReckoned_213 := dk_go 3 a_Ru_beginReckoned_210 rfl
theorem a_Ru_beginReckoned_214 : dk_at b_Ru_beginReckoned 214 t_Ru_beginReckoned_214 := dk_go 1 a_Ru_beginReckoned_213 rfl
theorem a_Ru_beginReckoned_217 : dk_at b_Ru_beginReckoned 217 t_Ru_beginReckoned_217 := dk_go 3 a_Ru_beginReckoned_214 rfl
theorem a_Ru_beginReckoned_218 : dk_at b_Ru_beginReckoned 218 t_Ru_beginReckoned_218 := dk_go 1 a_Ru_beginReckoned_217 rfl
theorem a_Ru_beginReckoned_219 : dk_at b_Ru_beginReckoned 219 t_Ru_beginReckoned_219 := dk_go 1 a_Ru_beginReckoned_218 rfl
theorem a_Ru_beginReckoned_220 : dk_at b_Ru_beginReckoned 220 t_Ru_beginReckoned_220 := dk_go 1 a_Ru_beginReckoned_219 rfl
theorem a_Ru_beginReckoned_223 : dk_at b_Ru_beginReckoned 223 t_Ru_beginReckoned_223 := dk_go 3 a_Ru_beginReckoned_220 rfl
theorem a_Ru_beginReckoned_224 : dk_at b_Ru_beginReckoned 224 t_Ru_beginReckoned_224 := dk_go 1 a_Ru_beginReckoned_223 rfl
theorem a_Ru_beginReckoned_226 : dk_at b_Ru_beginReckoned 226 t_Ru_beginReckoned_226 := dk_go 2 a_Ru_beginReckoned_224 rfl
theorem a_Ru_beginReckoned_227 : dk_at b_Ru_beginReckoned 227 t_Ru_beginReckoned_227 := dk_go 1 a_Ru_beginReckoned_226 rfl
theorem a_Ru_beginReckoned_228 : dk_at b_Ru_beginReckoned 228 t_Ru_beginReckoned_228 := dk_go 1 a_Ru_beginReckoned_227 rfl
theorem a_Ru_beginReckoned_231 : dk_at b_Ru_beginReckoned 231 t_Ru_beginReckoned_231 := dk_go 3 a_Ru_beginReckoned_228 rfl
theorem a_Ru_beginReckoned_232 : dk_at b_Ru_beginReckoned 232 t_Ru_beginReckoned_232 := dk_go 1 a_Ru_beginReckoned_231 rfl
theorem a_Ru_beginReckoned_235 : dk_at b_Ru_beginReckoned 235 t_Ru_beginReckoned_235 := dk_go 3 a_Ru_beginReckoned_232 rfl
theorem a_Ru_beginReckoned_236 : dk_at b_Ru_beginReckoned 236 t_Ru_beginReckoned_236 := dk_go 1 a_Ru_beginReckoned_235 rfl
theorem a_Ru_beginReckoned_239 : dk_at b_Ru_beginReckoned 239 t_Ru_beginReckoned_239 := dk_go 3 a_Ru_beginReckoned_236 rfl
theorem a_Ru_beginReckoned_242 : dk_at b_Ru_beginReckoned 242 t_Ru_beginReckoned_242 := dk_go 3 a_Ru_beginReckoned_239 rfl
theorem a_Ru_beginReckoned_243 : dk_at b_Ru_beginReckoned 243 t_Ru_beginReckoned_243 := dk_go 1 a_Ru_beginReckoned_242 rfl
theorem a_Ru_beginReckoned_244 : dk_at b_Ru_beginReckoned 244 t_Ru_beginReckoned_244 := dk_go 1 a_Ru_beginReckoned_243 rfl
theorem a_Ru_beginReckoned_247 : dk_at b_Ru_beginReckoned 247 t_Ru_beginReckoned_247 := dk_go 3 a_Ru_beginReckoned_244 rfl
theorem a_Ru_beginReckoned_248 : dk_at b_Ru_beginReckoned 248 t_Ru_beginReckoned_248 := dk_go 1 a_Ru_beginReckoned_247 rfl
theorem a_Ru_beginReckoned_249 : dk_at b_Ru_beginReckoned 249 t_Ru_beginReckoned_249 := dk_go 1 a_Ru_beginReckoned_248 rfl
theorem a_Ru_beginReckoned_251 : dk_at b_Ru_beginReckoned 251 t_Ru_beginReckoned_251 := dk_go 2 a_Ru_beginReckoned_249 rfl
theorem a_Ru_beginReckoned_252 : dk_at b_Ru_beginReckoned 252 t_Ru_beginReckoned_252 := dk_go 1 a_Ru_beginReckoned_251 rfl
theorem a_Ru_beginReckoned_253 : dk_at b_Ru_beginReckoned 253 t_Ru_beginReckoned_253 := dk_go 1 a_Ru_beginReckoned_252 rfl
theorem a_Ru_beginReckoned_256 : dk_at b_Ru_beginReckoned 256 t_Ru_beginReckoned_256 := dk_go 3 a_Ru_beginReckoned_253 rfl
theorem a_Ru_beginReckoned_257 : dk_at b_Ru_beginReckoned 257 t_Ru_beginReckoned_257 := dk_go 1 a_Ru_beginReckoned_256 rfl
theorem a_Ru_beginReckoned_260 : dk_at b_Ru_beginReckoned 260 t_Ru_beginReckoned_260 := dk_go 3 a_Ru_beginReckoned_257 rfl
theorem a_Ru_beginReckoned_261 : dk_at b_Ru_beginReckoned 261 t_Ru_beginReckoned_261 := dk_go 1 a_Ru_beginReckoned_260 rfl
theorem a_Ru_beginReckoned_262 : dk_at b_Ru_beginReckoned 262 t_Ru_beginReckoned_262 := dk_go 1 a_Ru_beginReckoned_261 rfl
theorem a_Ru_beginReckoned_265 : dk_at b_Ru_beginReckoned 265 t_Ru_beginReckoned_265 := dk_go 3 a_Ru_beginReckoned_262 rfl
theorem a_Ru_beginReckoned_266 : dk_at b_Ru_beginReckoned 266 t_Ru_beginReckoned_266 := dk_go 1 a_Ru_beginReckoned_265 rfl
theorem a_Ru_beginReckoned_269 : dk_at b_Ru_beginReckoned 269 t_Ru_beginReckoned_269 := dk_go 3 a_Ru_beginReckoned_266 rfl
theorem a_Ru_beginReckoned_270 : dk_at b_Ru_beginReckoned 270 t_Ru_beginReckoned_270 := dk_go 1 a_Ru_beginReckoned_269 rfl
theorem a_Ru_beginReckoned_273 : dk_at b_Ru_beginReckoned 273 t_Ru_beginReckoned_273 := dk_go 3 a_Ru_beginReckoned_270 rfl
theorem a_Ru_beginReckoned_274 : dk_at b_Ru_beginReckoned 274 t_Ru_beginReckoned_274 := dk_go 1 a_Ru_beginReckoned_273 rfl
theorem a_Ru_beginReckoned_275 : dk_at b_Ru_beginReckoned 275 t_Ru_beginReckoned_275 := dk_go 1 a_Ru_beginReckoned_274 rfl
theorem a_Ru_beginReckoned_276 : dk_at b_Ru_beginReckoned 276 t_Ru_beginReckoned_276 := dk_go 1 a_Ru_beginReckoned_275 rfl
theorem a_Ru_beginReckoned_279 : dk_at b_Ru_beginReckoned 279 t_Ru_beginReckoned_279 := dk_go 3 a_Ru_beginReckoned_276 rfl
theorem d_Ru_beginReckoned_0 : decode b_Ru_beginReckoned 0 = .ok (.aload_n 0, 1) := dk_0 a_Ru_beginReckoned_0 (dko_42 _)
theorem d_Ru_beginReckoned_1 : decode b_Ru_beginReckoned 1 = .ok (.getfield 22, 3) := dk_U2 a_Ru_beginReckoned_1 (dko_180 _) rfl
theorem d_Ru_beginReckoned_4 : decode b_Ru_beginReckoned 4 = .ok (.iload_n 1, 1) := dk_0 a_Ru_beginReckoned_4 (dko_27 _)
theorem d_Ru_beginReckoned_5 : decode b_Ru_beginReckoned 5 = .ok (.iaload, 1) := dk_0 a_Ru_beginReckoned_5 (dko_46 _)
theorem d_Ru_beginReckoned_6 : decode b_Ru_beginReckoned 6 = .ok (.istore_n 3, 1) := dk_0 a_Ru_beginReckoned_6 (dko_62 _)
theorem d_Ru_beginReckoned_7 : decode b_Ru_beginReckoned 7 = .ok (.aload_n 0, 1) := dk_0 a_Ru_beginReckoned_7 (dko_42 _)
theorem d_Ru_beginReckoned_8 : decode b_Ru_beginReckoned 8 = .ok (.aload_n 0, 1) := dk_0 a_Ru_beginReckoned_8 (dko_42 _)
theorem d_Ru_beginReckoned_9 : decode b_Ru_beginReckoned 9 = .ok (.getfield 12, 3) := dk_U2 a_Ru_beginReckoned_9 (dko_180 _) rfl
theorem d_Ru_beginReckoned_12 : decode b_Ru_beginReckoned 12 = .ok (.getfield 128, 3) := dk_U2 a_Ru_beginReckoned_12 (dko_180 _) rfl
theorem d_Ru_beginReckoned_15 : decode b_Ru_beginReckoned 15 = .ok (.iload_n 3, 1) := dk_0 a_Ru_beginReckoned_15 (dko_29 _)
theorem d_Ru_beginReckoned_16 : decode b_Ru_beginReckoned 16 = .ok (.iaload, 1) := dk_0 a_Ru_beginReckoned_16 (dko_46 _)
theorem d_Ru_beginReckoned_17 : decode b_Ru_beginReckoned 17 = .ok (.aload_n 0, 1) := dk_0 a_Ru_beginReckoned_17 (dko_42 _)
theorem d_Ru_beginReckoned_18 : decode b_Ru_beginReckoned 18 = .ok (.getfield 12, 3) := dk_U2 a_Ru_beginReckoned_18 (dko_180 _) rfl
theorem d_Ru_beginReckoned_21 : decode b_Ru_beginReckoned 21 = .ok (.getfield 131, 3) := dk_U2 a_Ru_beginReckoned_21 (dko_180 _) rfl
theorem d_Ru_beginReckoned_24 : decode b_Ru_beginReckoned 24 = .ok (.iload_n 3, 1) := dk_0 a_Ru_beginReckoned_24 (dko_29 _)
theorem d_Ru_beginReckoned_25 : decode b_Ru_beginReckoned 25 = .ok (.iaload, 1) := dk_0 a_Ru_beginReckoned_25 (dko_46 _)
theorem d_Ru_beginReckoned_26 : decode b_Ru_beginReckoned 26 = .ok (.invokevirtual 134, 3) := dk_U2 a_Ru_beginReckoned_26 (dko_182 _) rfl
theorem d_Ru_beginReckoned_29 : decode b_Ru_beginReckoned 29 = .ok (.lstore 4, 2) := dk_U1 a_Ru_beginReckoned_29 (dko_55 _) rfl
theorem d_Ru_beginReckoned_31 : decode b_Ru_beginReckoned 31 = .ok (.aload_n 0, 1) := dk_0 a_Ru_beginReckoned_31 (dko_42 _)
theorem d_Ru_beginReckoned_32 : decode b_Ru_beginReckoned 32 = .ok (.invokevirtual 103, 3) := dk_U2 a_Ru_beginReckoned_32 (dko_182 _) rfl
theorem d_Ru_beginReckoned_35 : decode b_Ru_beginReckoned 35 = .ok (.ifCond .eq 5, 3) := dk_S2 a_Ru_beginReckoned_35 (dko_153 _) (by decide +kernel)
theorem d_Ru_beginReckoned_38 : decode b_Ru_beginReckoned 38 = .ok (.iconst 0, 1) := dk_0 a_Ru_beginReckoned_38 (dko_3 _)
theorem d_Ru_beginReckoned_39 : decode b_Ru_beginReckoned 39 = .ok (.ireturn, 1) := dk_0 a_Ru_beginReckoned_39 (dko_172 _)
theorem d_Ru_beginReckoned_40 : decode b_Ru_beginReckoned 40 = .ok (.iload_n 2, 1) := dk_0 a_Ru_beginReckoned_40 (dko_28 _)
theorem d_Ru_beginReckoned_41 : decode b_Ru_beginReckoned 41 = .ok (.tableswitch 183 11 19 #[51, 60, 101, 118, 183, 183, 150, 183, 126], 51) := by decide +kernel
theorem d_Ru_beginReckoned_92 : decode b_Ru_beginReckoned 92 = .ok (.aload_n 0, 1) := dk_0 a_Ru_beginReckoned_92 (dko_42 _)
theorem d_Ru_beginReckoned_93 : decode b_Ru_beginReckoned 93 = .ok (.iload_n 3, 1) := dk_0 a_Ru_beginReckoned_93 (dko_29 _)
theorem d_Ru_beginReckoned_94 : decode b_Ru_beginReckoned 94 = .ok (.lload 4, 2) := dk_U1 a_Ru_beginReckoned_94 (dko_22 _) rfl
theorem d_Ru_beginReckoned_96 : decode b_Ru_beginReckoned 96 = .ok (.invokevirtual 183, 3) := dk_U2 a_Ru_beginReckoned_96 (dko_182 _) rfl
theorem d_Ru_beginReckoned_99 : decode b_Ru_beginReckoned 99 = .ok (.iconst 1, 1) := dk_0 a_Ru_beginReckoned_99 (dko_4 _)
theorem d_Ru_beginReckoned_100 : decode b_Ru_beginReckoned 100 = .ok (.ireturn, 1) := dk_0 a_Ru_beginReckoned_100 (dko_172 _)
theorem d_Ru_beginReckoned_101 : decode b_Ru_beginReckoned 101 = .ok (.aload_n 0, 1) := dk_0 a_Ru_beginReckoned_101 (dko_42 _)
theorem d_Ru_beginReckoned_102 : decode b_Ru_beginReckoned 102 = .ok (.getfield 38, 3) := dk_U2 a_Ru_beginReckoned_102 (dko_180 _) rfl
theorem d_Ru_beginReckoned_105 : decode b_Ru_beginReckoned 105 = .ok (.iload_n 1, 1) := dk_0 a_Ru_beginReckoned_105 (dko_27 _)
theorem d_Ru_beginReckoned_106 : decode b_Ru_beginReckoned 106 = .ok (.aload_n 0, 1) := dk_0 a_Ru_beginReckoned_106 (dko_42 _)
theorem d_Ru_beginReckoned_107 : decode b_Ru_beginReckoned 107 = .ok (.getfield 85, 3) := dk_U2 a_Ru_beginReckoned_107 (dko_180 _) rfl
theorem d_Ru_beginReckoned_110 : decode b_Ru_beginReckoned 110 = .ok (.lload 4, 2) := dk_U1 a_Ru_beginReckoned_110 (dko_22 _) rfl
theorem d_Ru_beginReckoned_112 : decode b_Ru_beginReckoned 112 = .ok (.ldc2_w 187, 3) := dk_U2 a_Ru_beginReckoned_112 (dko_20 _) rfl
theorem d_Ru_beginReckoned_115 : decode b_Ru_beginReckoned 115 = .ok (.ldiv, 1) := dk_0 a_Ru_beginReckoned_115 (dko_109 _)
theorem d_Ru_beginReckoned_116 : decode b_Ru_beginReckoned 116 = .ok (.ladd, 1) := dk_0 a_Ru_beginReckoned_116 (dko_97 _)
theorem d_Ru_beginReckoned_117 : decode b_Ru_beginReckoned 117 = .ok (.lastore, 1) := dk_0 a_Ru_beginReckoned_117 (dko_80 _)
theorem d_Ru_beginReckoned_118 : decode b_Ru_beginReckoned 118 = .ok (.aload_n 0, 1) := dk_0 a_Ru_beginReckoned_118 (dko_42 _)
theorem d_Ru_beginReckoned_119 : decode b_Ru_beginReckoned 119 = .ok (.getfield 38, 3) := dk_U2 a_Ru_beginReckoned_119 (dko_180 _) rfl
theorem d_Ru_beginReckoned_122 : decode b_Ru_beginReckoned 122 = .ok (.iload_n 1, 1) := dk_0 a_Ru_beginReckoned_122 (dko_27 _)
theorem d_Ru_beginReckoned_123 : decode b_Ru_beginReckoned 123 = .ok (.laload, 1) := dk_0 a_Ru_beginReckoned_123 (dko_47 _)
theorem d_Ru_beginReckoned_124 : decode b_Ru_beginReckoned 124 = .ok (.aload_n 0, 1) := dk_0 a_Ru_beginReckoned_124 (dko_42 _)
theorem d_Ru_beginReckoned_125 : decode b_Ru_beginReckoned 125 = .ok (.getfield 85, 3) := dk_U2 a_Ru_beginReckoned_125 (dko_180 _) rfl
theorem d_Ru_beginReckoned_128 : decode b_Ru_beginReckoned 128 = .ok (.lcmp, 1) := dk_0 a_Ru_beginReckoned_128 (dko_148 _)
theorem d_Ru_beginReckoned_129 : decode b_Ru_beginReckoned 129 = .ok (.ifCond .gt 7, 3) := dk_S2 a_Ru_beginReckoned_129 (dko_157 _) (by decide +kernel)
theorem d_Ru_beginReckoned_132 : decode b_Ru_beginReckoned 132 = .ok (.iconst 1, 1) := dk_0 a_Ru_beginReckoned_132 (dko_4 _)
theorem d_Ru_beginReckoned_133 : decode b_Ru_beginReckoned 133 = .ok (.goto 8, 3) := dk_S2 a_Ru_beginReckoned_133 (dko_167 _) (by decide +kernel)
theorem d_Ru_beginReckoned_136 : decode b_Ru_beginReckoned 136 = .ok (.aload_n 0, 1) := dk_0 a_Ru_beginReckoned_136 (dko_42 _)
theorem d_Ru_beginReckoned_137 : decode b_Ru_beginReckoned 137 = .ok (.iload_n 1, 1) := dk_0 a_Ru_beginReckoned_137 (dko_27 _)
theorem d_Ru_beginReckoned_138 : decode b_Ru_beginReckoned 138 = .ok (.invokevirtual 174, 3) := dk_U2 a_Ru_beginReckoned_138 (dko_182 _) rfl
theorem d_Ru_beginReckoned_141 : decode b_Ru_beginReckoned 141 = .ok (.ireturn, 1) := dk_0 a_Ru_beginReckoned_141 (dko_172 _)
theorem d_Ru_beginReckoned_142 : decode b_Ru_beginReckoned 142 = .ok (.lload 4, 2) := dk_U1 a_Ru_beginReckoned_142 (dko_22 _) rfl
theorem d_Ru_beginReckoned_144 : decode b_Ru_beginReckoned 144 = .ok (.lconst 0, 1) := dk_0 a_Ru_beginReckoned_144 (dko_9 _)
theorem d_Ru_beginReckoned_145 : decode b_Ru_beginReckoned 145 = .ok (.lcmp, 1) := dk_0 a_Ru_beginReckoned_145 (dko_148 _)
theorem d_Ru_beginReckoned_146 : decode b_Ru_beginReckoned 146 = .ok (.ifCond .eq 7, 3) := dk_S2 a_Ru_beginReckoned_146 (dko_153 _) (by decide +kernel)
theorem d_Ru_beginReckoned_149 : decode b_Ru_beginReckoned 149 = .ok (.iconst 1, 1) := dk_0 a_Ru_beginReckoned_149 (dko_4 _)
theorem d_Ru_beginReckoned_150 : decode b_Ru_beginReckoned 150 = .ok (.goto 8, 3) := dk_S2 a_Ru_beginReckoned_150 (dko_167 _) (by decide +kernel)
theorem d_Ru_beginReckoned_153 : decode b_Ru_beginReckoned 153 = .ok (.aload_n 0, 1) := dk_0 a_Ru_beginReckoned_153 (dko_42 _)
theorem d_Ru_beginReckoned_154 : decode b_Ru_beginReckoned 154 = .ok (.iload_n 1, 1) := dk_0 a_Ru_beginReckoned_154 (dko_27 _)
theorem d_Ru_beginReckoned_155 : decode b_Ru_beginReckoned 155 = .ok (.invokevirtual 174, 3) := dk_U2 a_Ru_beginReckoned_155 (dko_182 _) rfl
theorem d_Ru_beginReckoned_158 : decode b_Ru_beginReckoned 158 = .ok (.ireturn, 1) := dk_0 a_Ru_beginReckoned_158 (dko_172 _)
theorem d_Ru_beginReckoned_159 : decode b_Ru_beginReckoned 159 = .ok (.aload_n 0, 1) := dk_0 a_Ru_beginReckoned_159 (dko_42 _)
theorem d_Ru_beginReckoned_160 : decode b_Ru_beginReckoned 160 = .ok (.iload_n 1, 1) := dk_0 a_Ru_beginReckoned_160 (dko_27 _)
theorem d_Ru_beginReckoned_161 : decode b_Ru_beginReckoned 161 = .ok (.lload 4, 2) := dk_U1 a_Ru_beginReckoned_161 (dko_22 _) rfl
theorem d_Ru_beginReckoned_163 : decode b_Ru_beginReckoned 163 = .ok (.invokevirtual 189, 3) := dk_U2 a_Ru_beginReckoned_163 (dko_182 _) rfl
theorem d_Ru_beginReckoned_166 : decode b_Ru_beginReckoned 166 = .ok (.ireturn, 1) := dk_0 a_Ru_beginReckoned_166 (dko_172 _)
theorem d_Ru_beginReckoned_167 : decode b_Ru_beginReckoned 167 = .ok (.aload_n 0, 1) := dk_0 a_Ru_beginReckoned_167 (dko_42 _)
theorem d_Ru_beginReckoned_168 : decode b_Ru_beginReckoned 168 = .ok (.getfield 38, 3) := dk_U2 a_Ru_beginReckoned_168 (dko_180 _) rfl
theorem d_Ru_beginReckoned_171 : decode b_Ru_beginReckoned 171 = .ok (.iload_n 1, 1) := dk_0 a_Ru_beginReckoned_171 (dko_27 _)
theorem d_Ru_beginReckoned_172 : decode b_Ru_beginReckoned 172 = .ok (.lload 4, 2) := dk_U1 a_Ru_beginReckoned_172 (dko_22 _) rfl
theorem d_Ru_beginReckoned_174 : decode b_Ru_beginReckoned 174 = .ok (.ldc2_w 187, 3) := dk_U2 a_Ru_beginReckoned_174 (dko_20 _) rfl
theorem d_Ru_beginReckoned_177 : decode b_Ru_beginReckoned 177 = .ok (.ldiv, 1) := dk_0 a_Ru_beginReckoned_177 (dko_109 _)
theorem d_Ru_beginReckoned_178 : decode b_Ru_beginReckoned 178 = .ok (.lastore, 1) := dk_0 a_Ru_beginReckoned_178 (dko_80 _)
theorem d_Ru_beginReckoned_179 : decode b_Ru_beginReckoned 179 = .ok (.aload_n 0, 1) := dk_0 a_Ru_beginReckoned_179 (dko_42 _)
theorem d_Ru_beginReckoned_180 : decode b_Ru_beginReckoned 180 = .ok (.iload_n 1, 1) := dk_0 a_Ru_beginReckoned_180 (dko_27 _)
theorem d_Ru_beginReckoned_181 : decode b_Ru_beginReckoned 181 = .ok (.aload_n 0, 1) := dk_0 a_Ru_beginReckoned_181 (dko_42 _)
theorem d_Ru_beginReckoned_182 : decode b_Ru_beginReckoned 182 = .ok (.getfield 26, 3) := dk_U2 a_Ru_beginReckoned_182 (dko_180 _) rfl
theorem d_Ru_beginReckoned_185 : decode b_Ru_beginReckoned 185 = .ok (.iload_n 1, 1) := dk_0 a_Ru_beginReckoned_185 (dko_27 _)
theorem d_Ru_beginReckoned_186 : decode b_Ru_beginReckoned 186 = .ok (.iaload, 1) := dk_0 a_Ru_beginReckoned_186 (dko_46 _)
theorem d_Ru_beginReckoned_187 : decode b_Ru_beginReckoned 187 = .ok (.invokevirtual 180, 3) := dk_U2 a_Ru_beginReckoned_187 (dko_182 _) rfl
theorem d_Ru_beginReckoned_190 : decode b_Ru_beginReckoned 190 = .ok (.ireturn, 1) := dk_0 a_Ru_beginReckoned_190 (dko_172 _)
theorem d_Ru_beginReckoned_191 : decode b_Ru_beginReckoned 191 = .ok (.aload_n 0, 1) := dk_0 a_Ru_beginReckoned_191 (dko_42 _)
theorem d_Ru_beginReckoned_192 : decode b_Ru_beginReckoned 192 = .ok (.iload_n 1, 1) := dk_0 a_Ru_beginReckoned_192 (dko_27 _)
theorem d_Ru_beginReckoned_193 : decode b_Ru_beginReckoned 193 = .ok (.lload 4, 2) := dk_U1 a_Ru_beginReckoned_193 (dko_22 _) rfl
theorem d_Ru_beginReckoned_195 : decode b_Ru_beginReckoned 195 = .ok (.lconst 0, 1) := dk_0 a_Ru_beginReckoned_195 (dko_9 _)
theorem d_Ru_beginReckoned_196 : decode b_Ru_beginReckoned 196 = .ok (.lcmp, 1) := dk_0 a_Ru_beginReckoned_196 (dko_148 _)
theorem d_Ru_beginReckoned_197 : decode b_Ru_beginReckoned 197 = .ok (.ifCond .eq 12, 3) := dk_S2 a_Ru_beginReckoned_197 (dko_153 _) (by decide +kernel)
theorem d_Ru_beginReckoned_200 : decode b_Ru_beginReckoned 200 = .ok (.aload_n 0, 1) := dk_0 a_Ru_beginReckoned_200 (dko_42 _)
theorem d_Ru_beginReckoned_201 : decode b_Ru_beginReckoned 201 = .ok (.getfield 26, 3) := dk_U2 a_Ru_beginReckoned_201 (dko_180 _) rfl
theorem d_Ru_beginReckoned_204 : decode b_Ru_beginReckoned 204 = .ok (.iload_n 1, 1) := dk_0 a_Ru_beginReckoned_204 (dko_27 _)
theorem d_Ru_beginReckoned_205 : decode b_Ru_beginReckoned 205 = .ok (.iaload, 1) := dk_0 a_Ru_beginReckoned_205 (dko_46 _)
theorem d_Ru_beginReckoned_206 : decode b_Ru_beginReckoned 206 = .ok (.goto 14, 3) := dk_S2 a_Ru_beginReckoned_206 (dko_167 _) (by decide +kernel)
theorem d_Ru_beginReckoned_209 : decode b_Ru_beginReckoned 209 = .ok (.aload_n 0, 1) := dk_0 a_Ru_beginReckoned_209 (dko_42 _)
theorem d_Ru_beginReckoned_210 : decode b_Ru_beginReckoned 210 = .ok (.getfield 29, 3) := dk_U2 a_Ru_beginReckoned_210 (dko_180 _) rfl
theorem d_Ru_beginReckoned_213 : decode b_Ru_beginReckoned 213 = .ok (.aload_n 0, 1) := dk_0 a_Ru_beginReckoned_213 (dko_42 _)
theorem d_Ru_beginReckoned_214 : decode b_Ru_beginReckoned 214 = .ok (.getfield 26, 3) := dk_U2 a_Ru_beginReckoned_214 (dko_180 _) rfl
theorem d_Ru_beginReckoned_217 : decode b_Ru_beginReckoned 217 = .ok (.iload_n 1, 1) := dk_0 a_Ru_beginReckoned_217 (dko_27 _)
theorem d_Ru_beginReckoned_218 : decode b_Ru_beginReckoned 218 = .ok (.iaload, 1) := dk_0 a_Ru_beginReckoned_218 (dko_46 _)
theorem d_Ru_beginReckoned_219 : decode b_Ru_beginReckoned 219 = .ok (.iaload, 1) := dk_0 a_Ru_beginReckoned_219 (dko_46 _)
theorem d_Ru_beginReckoned_220 : decode b_Ru_beginReckoned 220 = .ok (.invokevirtual 180, 3) := dk_U2 a_Ru_beginReckoned_220 (dko_182 _) rfl
theorem d_Ru_beginReckoned_223 : decode b_Ru_beginReckoned 223 = .ok (.ireturn, 1) := dk_0 a_Ru_beginReckoned_223 (dko_172 _)
theorem d_Ru_beginReckoned_224 : decode b_Ru_beginReckoned 224 = .ok (.lload 4, 2) := dk_U1 a_Ru_beginReckoned_224 (dko_22 _) rfl
theorem d_Ru_beginReckoned_226 : decode b_Ru_beginReckoned 226 = .ok (.lconst 0, 1) := dk_0 a_Ru_beginReckoned_226 (dko_9 _)
theorem d_Ru_beginReckoned_227 : decode b_Ru_beginReckoned 227 = .ok (.lcmp, 1) := dk_0 a_Ru_beginReckoned_227 (dko_148 _)
theorem d_Ru_beginReckoned_228 : decode b_Ru_beginReckoned 228 = .ok (.ifCond .ne 19, 3) := dk_S2 a_Ru_beginReckoned_228 (dko_154 _) (by decide +kernel)
theorem d_Ru_beginReckoned_231 : decode b_Ru_beginReckoned 231 = .ok (.aload_n 0, 1) := dk_0 a_Ru_beginReckoned_231 (dko_42 _)
theorem d_Ru_beginReckoned_232 : decode b_Ru_beginReckoned 232 = .ok (.getfield 58, 3) := dk_U2 a_Ru_beginReckoned_232 (dko_180 _) rfl
theorem d_Ru_beginReckoned_235 : decode b_Ru_beginReckoned 235 = .ok (.aload_n 0, 1) := dk_0 a_Ru_beginReckoned_235 (dko_42 _)
theorem d_Ru_beginReckoned_236 : decode b_Ru_beginReckoned 236 = .ok (.getfield 62, 3) := dk_U2 a_Ru_beginReckoned_236 (dko_180 _) rfl
theorem d_Ru_beginReckoned_239 : decode b_Ru_beginReckoned 239 = .ok (.getfield 111, 3) := dk_U2 a_Ru_beginReckoned_239 (dko_180 _) rfl
theorem d_Ru_beginReckoned_242 : decode b_Ru_beginReckoned 242 = .ok (.iload_n 3, 1) := dk_0 a_Ru_beginReckoned_242 (dko_29 _)
theorem d_Ru_beginReckoned_243 : decode b_Ru_beginReckoned 243 = .ok (.iconst 3, 1) := dk_0 a_Ru_beginReckoned_243 (dko_6 _)
theorem d_Ru_beginReckoned_244 : decode b_Ru_beginReckoned 244 = .ok (.invokevirtual 116, 3) := dk_U2 a_Ru_beginReckoned_244 (dko_182 _) rfl
theorem d_Ru_beginReckoned_247 : decode b_Ru_beginReckoned 247 = .ok (.aload_n 0, 1) := dk_0 a_Ru_beginReckoned_247 (dko_42 _)
theorem d_Ru_beginReckoned_248 : decode b_Ru_beginReckoned 248 = .ok (.iload_n 1, 1) := dk_0 a_Ru_beginReckoned_248 (dko_27 _)
theorem d_Ru_beginReckoned_249 : decode b_Ru_beginReckoned 249 = .ok (.lload 4, 2) := dk_U1 a_Ru_beginReckoned_249 (dko_22 _) rfl
theorem d_Ru_beginReckoned_251 : decode b_Ru_beginReckoned 251 = .ok (.lconst 0, 1) := dk_0 a_Ru_beginReckoned_251 (dko_9 _)
theorem d_Ru_beginReckoned_252 : decode b_Ru_beginReckoned 252 = .ok (.lcmp, 1) := dk_0 a_Ru_beginReckoned_252 (dko_148 _)
theorem d_Ru_beginReckoned_253 : decode b_Ru_beginReckoned 253 = .ok (.ifCond .eq 12, 3) := dk_S2 a_Ru_beginReckoned_253 (dko_153 _) (by decide +kernel)
theorem d_Ru_beginReckoned_256 : decode b_Ru_beginReckoned 256 = .ok (.aload_n 0, 1) := dk_0 a_Ru_beginReckoned_256 (dko_42 _)
theorem d_Ru_beginReckoned_257 : decode b_Ru_beginReckoned 257 = .ok (.getfield 26, 3) := dk_U2 a_Ru_beginReckoned_257 (dko_180 _) rfl
theorem d_Ru_beginReckoned_260 : decode b_Ru_beginReckoned 260 = .ok (.iload_n 1, 1) := dk_0 a_Ru_beginReckoned_260 (dko_27 _)
theorem d_Ru_beginReckoned_261 : decode b_Ru_beginReckoned 261 = .ok (.iaload, 1) := dk_0 a_Ru_beginReckoned_261 (dko_46 _)
theorem d_Ru_beginReckoned_262 : decode b_Ru_beginReckoned 262 = .ok (.goto 14, 3) := dk_S2 a_Ru_beginReckoned_262 (dko_167 _) (by decide +kernel)
theorem d_Ru_beginReckoned_265 : decode b_Ru_beginReckoned 265 = .ok (.aload_n 0, 1) := dk_0 a_Ru_beginReckoned_265 (dko_42 _)
theorem d_Ru_beginReckoned_266 : decode b_Ru_beginReckoned 266 = .ok (.getfield 29, 3) := dk_U2 a_Ru_beginReckoned_266 (dko_180 _) rfl
theorem d_Ru_beginReckoned_269 : decode b_Ru_beginReckoned 269 = .ok (.aload_n 0, 1) := dk_0 a_Ru_beginReckoned_269 (dko_42 _)
theorem d_Ru_beginReckoned_270 : decode b_Ru_beginReckoned 270 = .ok (.getfield 26, 3) := dk_U2 a_Ru_beginReckoned_270 (dko_180 _) rfl
theorem d_Ru_beginReckoned_273 : decode b_Ru_beginReckoned 273 = .ok (.iload_n 1, 1) := dk_0 a_Ru_beginReckoned_273 (dko_27 _)
theorem d_Ru_beginReckoned_274 : decode b_Ru_beginReckoned 274 = .ok (.iaload, 1) := dk_0 a_Ru_beginReckoned_274 (dko_46 _)
theorem d_Ru_beginReckoned_275 : decode b_Ru_beginReckoned 275 = .ok (.iaload, 1) := dk_0 a_Ru_beginReckoned_275 (dko_46 _)
theorem d_Ru_beginReckoned_276 : decode b_Ru_beginReckoned 276 = .ok (.invokevirtual 180, 3) := dk_U2 a_Ru_beginReckoned_276 (dko_182 _) rfl
theorem d_Ru_beginReckoned_279 : decode b_Ru_beginReckoned 279 = .ok (.ireturn, 1) := dk_0 a_Ru_beginReckoned_279 (dko_172 _)
set_option maxHeartbeats 4000000 in
set_option maxRecDepth 100000 in
theorem ok_Ru_beginReckoned (pc : Nat) : OpS mt mi_Ru_beginReckoned pc (cs_Ru_beginReckoned pc) := (os_n (os_n (os_n (os_n (os_n (os_n (os_n (os_l (so_aload_n d_Ru_beginReckoned_0 rfl)) (os_l (so_get (C := R_Ru) (T := F_Ru) (N := 21) (j := 6) in_Ru rfl (by decide) mw_519 d_Ru_beginReckoned_1))) (os_n (os_l (so_iload_n d_Ru_beginReckoned_4 rfl)) (os_l (so_iaload d_Ru_beginReckoned_5)))) (os_n (os_n (os_l (so_istore_n d_Ru_beginReckoned_6 rfl (by decide))) (os_l (so_aload_n d_Ru_beginReckoned_7 rfl))) (os_n (os_l (so_aload_n d_Ru_beginReckoned_8 rfl)) (os_l (so_get (C := R_Ru) (T := F_Ru) (N := 21) (j := 3) in_Ru rfl (by decide) mw_514 d_Ru_beginReckoned_9))))) (os_n (os_n (os_n (os_l (so_get (C := R_Pr) (T := F_Pr) (N := 18) (j := 5) in_Pr rfl (by decide) mw_444 d_Ru_beginReckoned_12)) (os_l (so_iload_n d_Ru_beginReckoned_15 rfl))) (os_n (os_l (so_iaload d_Ru_beginReckoned_16)) (os_l (so_aload_n d_Ru_beginReckoned_17 rfl)))) (os_n (os_n (os_l (so_get (C := R_Ru) (T := F_Ru) (N := 21) (j := 3) in_Ru rfl (by decide) mw_514 d_Ru_beginReckoned_18)) (os_l (so_get (C := R_Pr) (T := F_Pr) (N := 18) (j := 6) in_Pr rfl (by decide) mw_447 d_Ru_beginReckoned_21))) (os_n (os_l (so_iload_n d_Ru_beginReckoned_24 rfl)) (os_n (os_l (so_iaload d_Ru_beginReckoned_25)) (os_l (so_callV (iv := mi_Ru_reckon) rfl rfl rfl mw_1357 mw_1359 sl_67 mw_11 mw_1360 ⟨by decide +kernel, by decide +kernel, by decide +kernel⟩ (by decide) d_Ru_beginReckoned_26))))))) (os_n (os_n (os_n (os_n (os_l (so_lstore d_Ru_beginReckoned_29 (by decide))) (os_l (so_aload_n d_Ru_beginReckoned_31 rfl))) (os_n (os_l (so_callV (iv := mi_Ru_isOver) rfl rfl rfl mw_1349 mw_1351 sl_65 mw_11 mw_1352 ⟨by decide +kernel, by decide +kernel, by decide +kernel⟩ (by decide) d_Ru_beginReckoned_32)) (os_l (so_ifeq d_Ru_beginReckoned_35 (by decide))))) (os_n (os_n (os_l (so_iconst d_Ru_beginReckoned_38 (by decide))) (os_l (so_ireturn rfl d_Ru_beginReckoned_39))) (os_n (os_l (so_iload_n d_Ru_beginReckoned_40 rfl)) (os_l (so_tab d_Ru_beginReckoned_41 (by decide) (by decide) (by decide)))))) (os_n (os_n (os_n (os_l (so_aload_n d_Ru_beginReckoned_92 rfl)) (os_l (so_iload_n d_Ru_beginReckoned_93 rfl))) (os_n (os_l (so_lload d_Ru_beginReckoned_94)) (os_l (so_callV (iv := mi_Ru_setValue) rfl rfl rfl mw_1394 mw_1396 sl_75 mw_11 mw_1397 ⟨by decide +kernel, by decide +kernel, by decide +kernel⟩ (by decide) d_Ru_beginReckoned_96)))) (os_n (os_n (os_l (so_iconst d_Ru_beginReckoned_99 (by decide))) (os_l (so_ireturn rfl d_Ru_beginReckoned_100))) (os_n (os_l (so_aload_n d_Ru_beginReckoned_101 rfl)) (os_n (os_l (so_get (C := R_Ru) (T := F_Ru) (N := 21) (j := 11) in_Ru rfl (by decide) mw_524 d_Ru_beginReckoned_102)) (os_l (so_iload_n d_Ru_beginReckoned_105 rfl)))))))) (os_n (os_n (os_n (os_n (os_n (os_l (so_aload_n d_Ru_beginReckoned_106 rfl)) (os_l (so_get (C := R_Ru) (T := F_Ru) (N := 21) (j := 17) in_Ru rfl (by decide) mw_530 d_Ru_beginReckoned_107))) (os_n (os_l (so_lload d_Ru_beginReckoned_110)) (os_l (so_ldc2 mw_1369 d_Ru_beginReckoned_112)))) (os_n (os_n (os_l (so_ldiv d_Ru_beginReckoned_115)) (os_l (so_ladd d_Ru_beginReckoned_116))) (os_n (os_l (so_lastore d_Ru_beginReckoned_117)) (os_l (so_aload_n d_Ru_beginReckoned_118 rfl))))) (os_n (os_n (os_n (os_l (so_get (C := R_Ru) (T := F_Ru) (N := 21) (j := 11) in_Ru rfl (by decide) mw_524 d_Ru_beginReckoned_119)) (os_l (so_iload_n d_Ru_beginReckoned_122 rfl))) (os_n (os_l (so_laload d_Ru_beginReckoned_123)) (os_l (so_aload_n d_Ru_beginReckoned_124 rfl)))) (os_n (os_n (os_l (so_get (C := R_Ru) (T := F_Ru) (N := 21) (j := 17) in_Ru rfl (by decide) mw_530 d_Ru_beginReckoned_125)) (os_l (so_lcmp d_Ru_beginReckoned_128))) (os_n (os_l (so_ifgt d_Ru_beginReckoned_129 (by decide))) (os_n (os_l (so_iconst d_Ru_beginReckoned_132 (by decide))) (os_l (so_goto d_Ru_beginReckoned_133 (by decide)))))))) (os_n (os_n (os_n (os_n (os_l (so_aload_n d_Ru_beginReckoned_136 rfl)) (os_l (so_iload_n d_Ru_beginReckoned_137 rfl))) (os_n (os_l (so_callV (iv := mi_Ru_stand) rfl rfl rfl mw_1405 mw_1407 sl_77 mw_11 mw_1408 ⟨by decide +kernel, by decide +kernel, by decide +kernel⟩ (by decide) d_Ru_beginReckoned_138)) (os_l (so_ireturn rfl d_Ru_beginReckoned_141)))) (os_n (os_n (os_l (so_lload d_Ru_beginReckoned_142)) (os_l (so_lconst d_Ru_beginReckoned_144 (by decide)))) (os_n (os_l (so_lcmp d_Ru_beginReckoned_145)) (os_l (so_ifeq d_Ru_beginReckoned_146 (by decide)))))) (os_n (os_n (os_n (os_l (so_iconst d_Ru_beginReckoned_149 (by decide))) (os_l (so_goto d_Ru_beginReckoned_150 (by decide)))) (os_n (os_l (so_aload_n d_Ru_beginReckoned_153 rfl)) (os_l (so_iload_n d_Ru_beginReckoned_154 rfl)))) (os_n (os_n (os_l (so_callV (iv := mi_Ru_stand) rfl rfl rfl mw_1405 mw_1407 sl_77 mw_11 mw_1408 ⟨by decide +kernel, by decide +kernel, by decide +kernel⟩ (by decide) d_Ru_beginReckoned_155)) (os_l (so_ireturn rfl d_Ru_beginReckoned_158))) (os_n (os_l (so_aload_n d_Ru_beginReckoned_159 rfl)) (os_n (os_l (so_iload_n d_Ru_beginReckoned_160 rfl)) (os_l (so_lload d_Ru_beginReckoned_161))))))))) (os_n (os_n (os_n (os_n (os_n (os_n (os_l (so_callV (iv := mi_Ru_beginRamp) rfl rfl rfl mw_1409 mw_1411 sl_78 mw_11 mw_1412 ⟨by decide +kernel, by decide +kernel, by decide +kernel⟩ (by decide) d_Ru_beginReckoned_163)) (os_l (so_ireturn rfl d_Ru_beginReckoned_166))) (os_n (os_l (so_aload_n d_Ru_beginReckoned_167 rfl)) (os_l (so_get (C := R_Ru) (T := F_Ru) (N := 21) (j := 11) in_Ru rfl (by decide) mw_524 d_Ru_beginReckoned_168)))) (os_n (os_n (os_l (so_iload_n d_Ru_beginReckoned_171 rfl)) (os_l (so_lload d_Ru_beginReckoned_172))) (os_n (os_l (so_ldc2 mw_1369 d_Ru_beginReckoned_174)) (os_l (so_ldiv d_Ru_beginReckoned_177))))) (os_n (os_n (os_n (os_l (so_lastore d_Ru_beginReckoned_178)) (os_l (so_aload_n d_Ru_beginReckoned_179 rfl))) (os_n (os_l (so_iload_n d_Ru_beginReckoned_180 rfl)) (os_l (so_aload_n d_Ru_beginReckoned_181 rfl)))) (os_n (os_n (os_l (so_get (C := R_Ru) (T := F_Ru) (N := 21) (j := 7) in_Ru rfl (by decide) mw_520 d_Ru_beginReckoned_182)) (os_l (so_iload_n d_Ru_beginReckoned_185 rfl))) (os_n (os_l (so_iaload d_Ru_beginReckoned_186)) (os_n (os_l (so_callV (iv := mi_Ru_goInside) rfl rfl rfl mw_1413 mw_1415 sl_79 mw_11 mw_1416 ⟨by decide +kernel, by decide +kernel, by decide +kernel⟩ (by decide) d_Ru_beginReckoned_187)) (os_l (so_ireturn rfl d_Ru_beginReckoned_190))))))) (os_n (os_n (os_n (os_n (os_l (so_aload_n d_Ru_beginReckoned_191 rfl)) (os_l (so_iload_n d_Ru_beginReckoned_192 rfl))) (os_n (os_l (so_lload d_Ru_beginReckoned_193)) (os_l (so_lconst d_Ru_beginReckoned_195 (by decide))))) (os_n (os_n (os_l (so_lcmp d_Ru_beginReckoned_196)) (os_l (so_ifeq d_Ru_beginReckoned_197 (by decide)))) (os_n (os_l (so_aload_n d_Ru_beginReckoned_200 rfl)) (os_l (so_get (C := R_Ru) (T := F_Ru) (N := 21) (j := 7) in_Ru rfl (by decide) mw_520 d_Ru_beginReckoned_201))))) (os_n (os_n (os_n (os_l (so_iload_n d_Ru_beginReckoned_204 rfl)) (os_l (so_iaload d_Ru_beginReckoned_205))) (os_n (os_l (so_goto d_Ru_beginReckoned_206 (by decide))) (os_l (so_aload_n d_Ru_beginReckoned_209 rfl)))) (os_n (os_n (os_l (so_get (C := R_Ru) (T := F_Ru) (N := 21) (j := 8) in_Ru rfl (by decide) mw_521 d_Ru_beginReckoned_210)) (os_l (so_aload_n d_Ru_beginReckoned_213 rfl))) (os_n (os_l (so_get (C := R_Ru) (T := F_Ru) (N := 21) (j := 7) in_Ru rfl (by decide) mw_520 d_Ru_beginReckoned_214)) (os_n (os_l (so_iload_n d_Ru_beginReckoned_217 rfl)) (os_l (so_iaload d_Ru_beginReckoned_218)))))))) (os_n (os_n (os_n (os_n (os_n (os_l (so_iaload d_Ru_beginReckoned_219)) (os_l (so_callV (iv := mi_Ru_goInside) rfl rfl rfl mw_1413 mw_1415 sl_79 mw_11 mw_1416 ⟨by decide +kernel, by decide +kernel, by decide +kernel⟩ (by decide) d_Ru_beginReckoned_220))) (os_n (os_l (so_ireturn rfl d_Ru_beginReckoned_223)) (os_l (so_lload d_Ru_beginReckoned_224)))) (os_n (os_n (os_l (so_lconst d_Ru_beginReckoned_226 (by decide))) (os_l (so_lcmp d_Ru_beginReckoned_227))) (os_n (os_l (so_ifne d_Ru_beginReckoned_228 (by decide))) (os_l (so_aload_n d_Ru_beginReckoned_231 rfl))))) (os_n (os_n (os_n (os_l (so_get (C := R_Ru) (T := F_Ru) (N := 21) (j := 1) in_Ru rfl (by decide) mw_512 d_Ru_beginReckoned_232)) (os_l (so_aload_n d_Ru_beginReckoned_235 rfl))) (os_n (os_l (so_get (C := R_Ru) (T := F_Ru) (N := 21) (j := 2) in_Ru rfl (by decide) mw_513 d_Ru_beginReckoned_236)) (os_l (so_get (C := R_St) (T := F_St) (N := 12) (j := 1) in_St rfl (by decide) mw_154 d_Ru_beginReckoned_239)))) (os_n (os_n (os_l (so_iload_n d_Ru_beginReckoned_242 rfl)) (os_l (so_iconst d_Ru_beginReckoned_243 (by decide)))) (os_n (os_l (so_callV (iv := mi_Al_add) rfl rfl rfl mw_1365 mw_1290 mw_1291 mw_3 mw_1292 ⟨by decide +kernel, by decide +kernel, by decide +kernel⟩ (by decide) d_Ru_beginReckoned_244)) (os_n (os_l (so_aload_n d_Ru_beginReckoned_247 rfl)) (os_l (so_iload_n d_Ru_beginReckoned_248 rfl))))))) (os_n (os_n (os_n (os_n (os_l (so_lload d_Ru_beginReckoned_249)) (os_l (so_lconst d_Ru_beginReckoned_251 (by decide)))) (os_n (os_l (so_lcmp d_Ru_beginReckoned_252)) (os_l (so_ifeq d_Ru_beginReckoned_253 (by decide))))) (os_n (os_n (os_l (so_aload_n d_Ru_beginReckoned_256 rfl)) (os_l (so_get (C := R_Ru) (T := F_Ru) (N := 21) (j := 7) in_Ru rfl (by decide) mw_520 d_Ru_beginReckoned_257))) (os_n (os_l (so_iload_n d_Ru_beginReckoned_260 rfl)) (os_n (os_l (so_iaload d_Ru_beginReckoned_261)) (os_l (so_goto d_Ru_beginReckoned_262 (by decide))))))) (os_n (os_n (os_n (os_l (so_aload_n d_Ru_beginReckoned_265 rfl)) (os_l (so_get (C := R_Ru) (T := F_Ru) (N := 21) (j := 8) in_Ru rfl (by decide) mw_521 d_Ru_beginReckoned_266))) (os_n (os_l (so_aload_n d_Ru_beginReckoned_269 rfl)) (os_l (so_get (C := R_Ru) (T := F_Ru) (N := 21) (j := 7) in_Ru rfl (by decide) mw_520 d_Ru_beginReckoned_270)))) (os_n (os_n (os_l (so_iload_n d_Ru_beginReckoned_273 rfl)) (os_l (so_iaload d_Ru_beginReckoned_274))) (os_n (os_l (so_iaload d_Ru_beginReckoned_275)) (os_n (os_l (so_callV (iv := mi_Ru_goInside) rfl rfl rfl mw_1413 mw_1415 sl_79 mw_11 mw_1416 ⟨by decide +kernel, by decide +kernel, by decide +kernel⟩ (by decide) d_Ru_beginReckoned_276)) (os_l (so_ireturn rfl d_Ru_beginReckoned_279))))))))))
abbrev t_Ru_setValue_18 : List UInt8 := 177 :: []
abbrev t_Ru_setValue_17 : List UInt8 := 80 :: t_Ru_setValue_18
abbrev t_Ru_setValue_16 : List UInt8 := 32 :: t_Ru_setValue_17
abbrev t_Ru_setValue_15 : List UInt8 := 46 :: t_Ru_setValue_16
abbrev t_Ru_setValue_14 : List UInt8 := 27 :: t_Ru_setValue_15
abbrev t_Ru_setValue_11 : List UInt8 := 180 :: 0 :: 166 :: t_Ru_setValue_14
abbrev t_Ru_setValue_8 : List UInt8 := 180 :: 0 :: 12 :: t_Ru_setValue_11
abbrev t_Ru_setValue_7 : List UInt8 := 42 :: t_Ru_setValue_8
abbrev t_Ru_setValue_4 : List UInt8 := 180 :: 0 :: 193 :: t_Ru_setValue_7
abbrev t_Ru_setValue_1 : List UInt8 := 180 :: 0 :: 12 :: t_Ru_setValue_4
abbrev t_Ru_setValue_0 : List UInt8 := 42 :: t_Ru_setValue_1
theorem a_Ru_setValue_0 : dk_at b_Ru_setValue 0 t_Ru_setValue_0 := dk_start (by decide +kernel)
theorem a_Ru_setValue_1 : dk_at b_Ru_setValue 1 t_Ru_setValue_1 := dk_go 1 a_Ru_setValue_0 rfl
theorem a_Ru_setValue_4 : dk_at b_Ru_setValue 4 t_Ru_setValue_4 := dk_go 3 a_Ru_setValue_1 rfl
theorem a_Ru_setValue_7 : dk_at b_Ru_setValue 7 t_Ru_setValue_7 := dk_go 3 a_Ru_setValue_4 rfl
theorem a_Ru_setValue_8 : dk_at b_Ru_setValue 8 t_Ru_setValue_8 := dk_go 1 a_Ru_setValue_7 rfl
theorem a_Ru_setValue_11 : dk_at b_Ru_setValue 11 t_Ru_setValue_11 := dk_go 3 a_Ru_setValue_8 rfl
theorem a_Ru_setValue_14 : dk_at b_Ru_setValue 14 t_Ru_setValue_14 := dk_go 3 a_Ru_setValue_11 rfl
theorem a_Ru_setValue_15 : dk_at b_Ru_setValue 15 t_Ru_setValue_15 := dk_go 1 a_Ru_setValue_14 rfl
theorem a_Ru_setValue_16 : dk_at b_Ru_setValue 16 t_Ru_setValue_16 := dk_go 1 a_Ru_setValue_15 rfl
theorem a_Ru_setValue_17 : dk_at b_Ru_setValue 17 t_Ru_setValue_17 := dk_go 1 a_Ru_setValue_16 rfl
theorem a_Ru_setValue_18 : dk_at b_Ru_setValue 18 t_Ru_setValue_18 := dk_go 1 a_Ru_setValue_17 rfl
theorem d_Ru_setValue_0 : decode b_Ru_setValue 0 = .ok (.aload_n 0, 1) := dk_0 a_Ru_setValue_0 (dko_42 _)
theorem d_Ru_setValue_1 : decode b_Ru_setValue 1 = .ok (.getfield 12, 3) := dk_U2 a_Ru_setValue_1 (dko_180 _) rfl
theorem d_Ru_setValue_4 : decode b_Ru_setValue 4 = .ok (.getfield 193, 3) := dk_U2 a_Ru_setValue_4 (dko_180 _) rfl
theorem d_Ru_setValue_7 : decode b_Ru_setValue 7 = .ok (.aload_n 0, 1) := dk_0 a_Ru_setValue_7 (dko_42 _)
theorem d_Ru_setValue_8 : decode b_Ru_setValue 8 = .ok (.getfield 12, 3) := dk_U2 a_Ru_setValue_8 (dko_180 _) rfl
theorem d_Ru_setValue_11 : decode b_Ru_setValue 11 = .ok (.getfield 166, 3) := dk_U2 a_Ru_setValue_11 (dko_180 _) rfl
theorem d_Ru_setValue_14 : decode b_Ru_setValue 14 = .ok (.iload_n 1, 1) := dk_0 a_Ru_setValue_14 (dko_27 _)
theorem d_Ru_setValue_15 : decode b_Ru_setValue 15 = .ok (.iaload, 1) := dk_0 a_Ru_setValue_15 (dko_46 _)
theorem d_Ru_setValue_16 : decode b_Ru_setValue 16 = .ok (.lload_n 2, 1) := dk_0 a_Ru_setValue_16 (dko_32 _)
theorem d_Ru_setValue_17 : decode b_Ru_setValue 17 = .ok (.lastore, 1) := dk_0 a_Ru_setValue_17 (dko_80 _)
theorem d_Ru_setValue_18 : decode b_Ru_setValue 18 = .ok (.return_, 1) := dk_0 a_Ru_setValue_18 (dko_177 _)
set_option maxHeartbeats 4000000 in
set_option maxRecDepth 100000 in
theorem ok_Ru_setValue (pc : Nat) : OpS mt mi_Ru_setValue pc (cs_Ru_setValue pc) := (os_n (os_n (os_n (os_l (so_aload_n d_Ru_setValue_0 rfl)) (os_l (so_get (C := R_Ru) (T := F_Ru) (N := 21) (j := 3) in_Ru rfl (by decide) mw_514 d_Ru_setValue_1))) (os_n (os_l (so_get (C := R_Pr) (T := F_Pr) (N := 18) (j := 15) in_Pr rfl (by decide) mw_469 d_Ru_setValue_4)) (os_n (os_l (so_aload_n d_Ru_setValue_7 rfl)) (os_l (so_get (C := R_Ru) (T := F_Ru) (N := 21) (j := 3) in_Ru rfl (by decide) mw_514 d_Ru_setValue_8))))) (os_n (os_n (os_l (so_get (C := R_Pr) (T := F_Pr) (N := 18) (j := 4) in_Pr rfl (by decide) mw_442 d_Ru_setValue_11)) (os_n (os_l (so_iload_n d_Ru_setValue_14 rfl)) (os_l (so_iaload d_Ru_setValue_15)))) (os_n (os_l (so_lload_n d_Ru_setValue_16 rfl)) (os_n (os_l (so_lastore d_Ru_setValue_17)) (os_l (so_return rfl d_Ru_setValue_18))))))
abbrev t_Ru_beginRamp_109 : List UInt8 := 172 :: []
abbrev t_Ru_beginRamp_106 : List UInt8 := 182 :: 0 :: 174 :: t_Ru_beginRamp_109
abbrev t_Ru_beginRamp_105 : List UInt8 := 27 :: t_Ru_beginRamp_106
abbrev t_Ru_beginRamp_104 : List UInt8 := 42 :: t_Ru_beginRamp_105
abbrev t_Ru_beginRamp_103 : List UInt8 := 80 :: t_Ru_beginRamp_104
abbrev t_Ru_beginRamp_102 : List UInt8 := 32 :: t_Ru_beginRamp_103
abbrev t_Ru_beginRamp_101 : List UInt8 := 27 :: t_Ru_beginRamp_102
abbrev t_Ru_beginRamp_98 : List UInt8 := 180 :: 0 :: 48 :: t_Ru_beginRamp_101
abbrev t_Ru_beginRamp_97 : List UInt8 := 42 :: t_Ru_beginRamp_98
abbrev t_Ru_beginRamp_96 : List UInt8 := 80 :: t_Ru_beginRamp_97
abbrev t_Ru_beginRamp_95 : List UInt8 := 47 :: t_Ru_beginRamp_96
abbrev t_Ru_beginRamp_94 : List UInt8 := 46 :: t_Ru_beginRamp_95
abbrev t_Ru_beginRamp_92 : List UInt8 := 21 :: 4 :: t_Ru_beginRamp_94
abbrev t_Ru_beginRamp_89 : List UInt8 := 180 :: 0 :: 166 :: t_Ru_beginRamp_92
abbrev t_Ru_beginRamp_86 : List UInt8 := 180 :: 0 :: 12 :: t_Ru_beginRamp_89
abbrev t_Ru_beginRamp_85 : List UInt8 := 42 :: t_Ru_beginRamp_86
abbrev t_Ru_beginRamp_82 : List UInt8 := 180 :: 0 :: 193 :: t_Ru_beginRamp_85
abbrev t_Ru_beginRamp_79 : List UInt8 := 180 :: 0 :: 12 :: t_Ru_beginRamp_82
abbrev t_Ru_beginRamp_78 : List UInt8 := 42 :: t_Ru_beginRamp_79
abbrev t_Ru_beginRamp_77 : List UInt8 := 27 :: t_Ru_beginRamp_78
abbrev t_Ru_beginRamp_74 : List UInt8 := 180 :: 0 :: 45 :: t_Ru_beginRamp_77
abbrev t_Ru_beginRamp_73 : List UInt8 := 42 :: t_Ru_beginRamp_74
abbrev t_Ru_beginRamp_72 : List UInt8 := 80 :: t_Ru_beginRamp_73
abbrev t_Ru_beginRamp_70 : List UInt8 := 22 :: 5 :: t_Ru_beginRamp_72
abbrev t_Ru_beginRamp_69 : List UInt8 := 27 :: t_Ru_beginRamp_70
abbrev t_Ru_beginRamp_66 : List UInt8 := 180 :: 0 :: 42 :: t_Ru_beginRamp_69
abbrev t_Ru_beginRamp_65 : List UInt8 := 42 :: t_Ru_beginRamp_66
abbrev t_Ru_beginRamp_64 : List UInt8 := 80 :: t_Ru_beginRamp_65
abbrev t_Ru_beginRamp_61 : List UInt8 := 180 :: 0 :: 85 :: t_Ru_beginRamp_64
abbrev t_Ru_beginRamp_60 : List UInt8 := 42 :: t_Ru_beginRamp_61
abbrev t_Ru_beginRamp_59 : List UInt8 := 27 :: t_Ru_beginRamp_60
abbrev t_Ru_beginRamp_56 : List UInt8 := 180 :: 0 :: 38 :: t_Ru_beginRamp_59
abbrev t_Ru_beginRamp_55 : List UInt8 := 42 :: t_Ru_beginRamp_56
abbrev t_Ru_beginRamp_54 : List UInt8 := 172 :: t_Ru_beginRamp_55
abbrev t_Ru_beginRamp_53 : List UInt8 := 4 :: t_Ru_beginRamp_54
abbrev t_Ru_beginRamp_50 : List UInt8 := 182 :: 0 :: 183 :: t_Ru_beginRamp_53
abbrev t_Ru_beginRamp_49 : List UInt8 := 32 :: t_Ru_beginRamp_50
abbrev t_Ru_beginRamp_47 : List UInt8 := 21 :: 4 :: t_Ru_beginRamp_49
abbrev t_Ru_beginRamp_46 : List UInt8 := 42 :: t_Ru_beginRamp_47
abbrev t_Ru_beginRamp_43 : List UInt8 := 156 :: 0 :: 12 :: t_Ru_beginRamp_46
abbrev t_Ru_beginRamp_42 : List UInt8 := 148 :: t_Ru_beginRamp_43
abbrev t_Ru_beginRamp_41 : List UInt8 := 10 :: t_Ru_beginRamp_42
abbrev t_Ru_beginRamp_39 : List UInt8 := 22 :: 5 :: t_Ru_beginRamp_41
abbrev t_Ru_beginRamp_38 : List UInt8 := 172 :: t_Ru_beginRamp_39
abbrev t_Ru_beginRamp_37 : List UInt8 := 3 :: t_Ru_beginRamp_38
abbrev t_Ru_beginRamp_34 : List UInt8 := 153 :: 0 :: 5 :: t_Ru_beginRamp_37
abbrev t_Ru_beginRamp_31 : List UInt8 := 182 :: 0 :: 103 :: t_Ru_beginRamp_34
abbrev t_Ru_beginRamp_30 : List UInt8 := 42 :: t_Ru_beginRamp_31
abbrev t_Ru_beginRamp_28 : List UInt8 := 55 :: 5 :: t_Ru_beginRamp_30
abbrev t_Ru_beginRamp_27 : List UInt8 := 109 :: t_Ru_beginRamp_28
abbrev t_Ru_beginRamp_24 : List UInt8 := 20 :: 0 :: 187 :: t_Ru_beginRamp_27
abbrev t_Ru_beginRamp_21 : List UInt8 := 182 :: 0 :: 134 :: t_Ru_beginRamp_24
abbrev t_Ru_beginRamp_19 : List UInt8 := 21 :: 4 :: t_Ru_beginRamp_21
abbrev t_Ru_beginRamp_18 : List UInt8 := 46 :: t_Ru_beginRamp_19
abbrev t_Ru_beginRamp_16 : List UInt8 := 21 :: 4 :: t_Ru_beginRamp_18
abbrev t_Ru_beginRamp_13 : List UInt8 := 180 :: 0 :: 131 :: t_Ru_beginRamp_16
abbrev t_Ru_beginRamp_10 : List UInt8 := 180 :: 0 :: 12 :: t_Ru_beginRamp_13
abbrev t_Ru_beginRamp_9 : List UInt8 := 42 :: t_Ru_beginRamp_10
abbrev t_Ru_beginRamp_8 : List UInt8 := 42 :: t_Ru_beginRamp_9
abbrev t_Ru_beginRamp_6 : List UInt8 := 54 :: 4 :: t_Ru_beginRamp_8
abbrev t_Ru_beginRamp_5 : List UInt8 := 46 :: t_Ru_beginRamp_6
abbrev t_Ru_beginRamp_4 : List UInt8 := 27 :: t_Ru_beginRamp_5
abbrev t_Ru_beginRamp_1 : List UInt8 := 180 :: 0 :: 22 :: t_Ru_beginRamp_4
abbrev t_Ru_beginRamp_0 : List UInt8 := 42 :: t_Ru_beginRamp_1
theorem a_Ru_beginRamp_0 : dk_at b_Ru_beginRamp 0 t_Ru_beginRamp_0 := dk_start (by decide +kernel)
theorem a_Ru_beginRamp_1 : dk_at b_Ru_beginRamp 1 t_Ru_beginRamp_1 := dk_go 1 a_Ru_beginRamp_0 rfl
theorem a_Ru_beginRamp_4 : dk_at b_Ru_beginRamp 4 t_Ru_beginRamp_4 := dk_go 3 a_Ru_beginRamp_1 rfl
theorem a_Ru_beginRamp_5 : dk_at b_Ru_beginRamp 5 t_Ru_beginRamp_5 := dk_go 1 a_Ru_beginRamp_4 rfl
theorem a_Ru_beginRamp_6 : dk_at b_Ru_beginRamp 6 t_Ru_beginRamp_6 := dk_go 1 a_Ru_beginRamp_5 rfl
theorem a_Ru_beginRamp_8 : dk_at b_Ru_beginRamp 8 t_Ru_beginRamp_8 := dk_go 2 a_Ru_beginRamp_6 rfl
theorem a_Ru_beginRamp_9 : dk_at b_Ru_beginRamp 9 t_Ru_beginRamp_9 := dk_go 1 a_Ru_beginRamp_8 rfl
theorem a_Ru_beginRamp_10 : dk_at b_Ru_beginRamp 10 t_Ru_beginRamp_10 := dk_go 1 a_Ru_beginRamp_9 rfl
theorem a_Ru_beginRamp_13 : dk_at b_Ru_beginRamp 13 t_Ru_beginRamp_13 := dk_go 3 a_Ru_beginRamp_10 rfl
theorem a_Ru_beginRamp_16 : dk_at b_Ru_beginRamp 16 t_Ru_beginRamp_16 := dk_go 3 a_Ru_beginRamp_13 rfl
theorem a_Ru_beginRamp_18 : dk_at b_Ru_beginRamp 18 t_Ru_beginRamp_18 := dk_go 2 a_Ru_beginRamp_16 rfl
theorem a_Ru_beginRamp_19 : dk_at b_Ru_beginRamp 19 t_Ru_beginRamp_19 := dk_go 1 a_Ru_beginRamp_18 rfl
theorem a_Ru_beginRamp_21 : dk_at b_Ru_beginRamp 21 t_Ru_beginRamp_21 := dk_go 2 a_Ru_beginRamp_19 rfl
theorem a_Ru_beginRamp_24 : dk_at b_Ru_beginRamp 24 t_Ru_beginRamp_24 := dk_go 3 a_Ru_beginRamp_21 rfl
theorem a_Ru_beginRamp_27 : dk_at b_Ru_beginRamp 27 t_Ru_beginRamp_27 := dk_go 3 a_Ru_beginRamp_24 rfl
theorem a_Ru_beginRamp_28 : dk_at b_Ru_beginRamp 28 t_Ru_beginRamp_28 := dk_go 1 a_Ru_beginRamp_27 rfl
theorem a_Ru_beginRamp_30 : dk_at b_Ru_beginRamp 30 t_Ru_beginRamp_30 := dk_go 2 a_Ru_beginRamp_28 rfl
theorem a_Ru_beginRamp_31 : dk_at b_Ru_beginRamp 31 t_Ru_beginRamp_31 := dk_go 1 a_Ru_beginRamp_30 rfl
theorem a_Ru_beginRamp_34 : dk_at b_Ru_beginRamp 34 t_Ru_beginRamp_34 := dk_go 3 a_Ru_beginRamp_31 rfl
theorem a_Ru_beginRamp_37 : dk_at b_Ru_beginRamp 37 t_Ru_beginRamp_37 := dk_go 3 a_Ru_beginRamp_34 rfl
theorem a_Ru_beginRamp_38 : dk_at b_Ru_beginRamp 38 t_Ru_beginRamp_38 := dk_go 1 a_Ru_beginRamp_37 rfl
theorem a_Ru_beginRamp_39 : dk_at b_Ru_beginRamp 39 t_Ru_beginRamp_39 := dk_go 1 a_Ru_beginRamp_38 rfl
theorem a_Ru_beginRamp_41 : dk_at b_Ru_beginRamp 41 t_Ru_beginRamp_41 := dk_go 2 a_Ru_beginRamp_39 rfl
theorem a_Ru_beginRamp_42 : dk_at b_Ru_beginRamp 42 t_Ru_beginRamp_42 := dk_go 1 a_Ru_beginRamp_41 rfl
theorem a_Ru_beginRamp_43 : dk_at b_Ru_beginRamp 43 t_Ru_beginRamp_43 := dk_go 1 a_Ru_beginRamp_42 rfl
theorem a_Ru_beginRamp_46 : dk_at b_Ru_beginRamp 46 t_Ru_beginRamp_46 := dk_go 3 a_Ru_beginRamp_43 rfl
theorem a_Ru_beginRamp_47 : dk_at b_Ru_beginRamp 47 t_Ru_beginRamp_47 := dk_go 1 a_Ru_beginRamp_46 rfl
theorem a_Ru_beginRamp_49 : dk_at b_Ru_beginRamp 49 t_Ru_beginRamp_49 := dk_go 2 a_Ru_beginRamp_47 rfl
theorem a_Ru_beginRamp_50 : dk_at b_Ru_beginRamp 50 t_Ru_beginRamp_50 := dk_go 1 a_Ru_beginRamp_49 rfl
theorem a_Ru_beginRamp_53 : dk_at b_Ru_beginRamp 53 t_Ru_beginRamp_53 := dk_go 3 a_Ru_beginRamp_50 rfl
theorem a_Ru_beginRamp_54 : dk_at b_Ru_beginRamp 54 t_Ru_beginRamp_54 := dk_go 1 a_Ru_beginRamp_53 rfl
theorem a_Ru_beginRamp_55 : dk_at b_Ru_beginRamp 55 t_Ru_beginRamp_55 := dk_go 1 a_Ru_beginRamp_54 rfl
theorem a_Ru_beginRamp_56 : dk_at b_Ru_beginRamp 56 t_Ru_beginRamp_56 := dk_go 1 a_Ru_beginRamp_55 rfl
theorem a_Ru_beginRamp_59 : dk_at b_Ru_beginRamp 59 t_Ru_beginRamp_59 := dk_go 3 a_Ru_beginRamp_56 rfl
theorem a_Ru_beginRamp_60 : dk_at b_Ru_beginRamp 60 t_Ru_beginRamp_60 := dk_go 1 a_Ru_beginRamp_59 rfl
theorem a_Ru_beginRamp_61 : dk_at b_Ru_beginRamp 61 t_Ru_beginRamp_61 := dk_go 1 a_Ru_beginRamp_60 rfl
theorem a_Ru_beginRamp_64 : dk_at b_Ru_beginRamp 64 t_Ru_beginRamp_64 := dk_go 3 a_Ru_beginRamp_61 rfl
theorem a_Ru_beginRamp_65 : dk_at b_Ru_beginRamp 65 t_Ru_beginRamp_65 := dk_go 1 a_Ru_beginRamp_64 rfl
theorem a_Ru_beginRamp_66 : dk_at b_Ru_beginRamp 66 t_Ru_beginRamp_66 := dk_go 1 a_Ru_beginRamp_65 rfl
theorem a_Ru_beginRamp_69 : dk_at b_Ru_beginRamp 69 t_Ru_beginRamp_69 := dk_go 3 a_Ru_beginRamp_66 rfl
theorem a_Ru_beginRamp_70 : dk_at b_Ru_beginRamp 70 t_Ru_beginRamp_70 := dk_go 1 a_Ru_beginRamp_69 rfl
theorem a_Ru_beginRamp_72 : dk_at b_Ru_beginRamp 72 t_Ru_beginRamp_72 := dk_go 2 a_Ru_beginRamp_70 rfl
theorem a_Ru_beginRamp_73 : dk_at b_Ru_beginRamp 73 t_Ru_beginRamp_73 := dk_go 1 a_Ru_beginRamp_72 rfl
theorem a_Ru_beginRamp_74 : dk_at b_Ru_beginRamp 74 t_Ru_beginRamp_74 := dk_go 1 a_Ru_beginRamp_73 rfl
theorem a_Ru_beginRamp_77 : dk_at b_Ru_beginRamp 77 t_Ru_beginRamp_77 := dk_go 3 a_Ru_beginRamp_74 rfl
theorem a_Ru_beginRamp_78 : dk_at b_Ru_beginRamp 78 t_Ru_beginRamp_78 := dk_go 1 a_Ru_beginRamp_77 rfl
theorem a_Ru_beginRamp_79 : dk_at b_Ru_beginRamp 79 t_Ru_beginRamp_79 := dk_go 1 a_Ru_beginRamp_78 rfl
theorem a_Ru_beginRamp_82 : dk_at b_Ru_beginRamp 82 t_Ru_beginRamp_82 := dk_go 3 a_Ru_beginRamp_79 rfl
theorem a_Ru_beginRamp_85 : dk_at b_Ru_beginRamp 85 t_Ru_beginRamp_85 := dk_go 3 a_Ru_beginRamp_82 rfl
theorem a_Ru_beginRamp_86 : dk_at b_Ru_beginRamp 86 t_Ru_beginRamp_86 := dk_go 1 a_Ru_beginRamp_85 rfl
theorem a_Ru_beginRamp_89 : dk_at b_Ru_beginRamp 89 t_Ru_beginRamp_89 := dk_go 3 a_Ru_beginRamp_86 rfl
theorem a_Ru_beginRamp_92 : dk_at b_Ru_beginRamp 92 t_Ru_beginRamp_92 := dk_go 3 a_Ru_beginRamp_89 rfl
theorem a_Ru_beginRamp_94 : dk_at b_Ru_beginRamp 94 t_Ru_beginRamp_94 := dk_go 2 a_Ru_beginRamp_92 rfl
theorem a_Ru_beginRamp_95 : dk_at b_Ru_beginRamp 95 t_Ru_beginRamp_95 := dk_go 1 a_Ru_beginRamp_94 rfl
theorem a_Ru_beginRamp_96 : dk_at b_Ru_beginRamp 96 t_Ru_beginRamp_96 := dk_go 1 a_Ru_beginRamp_95 rfl
theorem a_Ru_beginRamp_97 : dk_at b_Ru_beginRamp 97 t_Ru_beginRamp_97 := dk_go 1 a_Ru_beginRamp_96 rfl
theorem a_Ru_beginRamp_98 : dk_at b_Ru_beginRamp 98 t_Ru_beginRamp_98 := dk_go 1 a_Ru_beginRamp_97 rfl
theorem a_Ru_beginRamp_101 : dk_at b_Ru_beginRamp 101 t_Ru_beginRamp_101 := dk_go 3 a_Ru_beginRamp_98 rfl
theorem a_Ru_beginRamp_102 : dk_at b_Ru_beginRamp 102 t_Ru_beginRamp_102 := dk_go 1 a_Ru_beginRamp_101 rfl
theorem a_Ru_beginRamp_103 : dk_at b_Ru_beginRamp 103 t_Ru_beginRamp_103 := dk_go 1 a_Ru_beginRamp_102 rfl
theorem a_Ru_beginRamp_104 : dk_at b_Ru_beginRamp 104 t_Ru_beginRamp_104 := dk_go 1 a_Ru_beginRamp_103 rfl
theorem a_Ru_beginRamp_105 : dk_at b_Ru_beginRamp 105 t_Ru_beginRamp_105 := dk_go 1 a_Ru_beginRamp_104 rfl
theorem a_Ru_beginRamp_106 : dk_at b_Ru_beginRamp 106 t_Ru_beginRamp_106 := dk_go 1 a_Ru_beginRamp_105 rfl
theorem a_Ru_beginRamp_109 : dk_at b_Ru_beginRamp 109 t_Ru_beginRamp_109 := dk_go 3 a_Ru_beginRamp_106 rfl
theorem d_Ru_beginRamp_0 : decode b_Ru_beginRamp 0 = .ok (.aload_n 0, 1) := dk_0 a_Ru_beginRamp_0 (dko_42 _)
theorem d_Ru_beginRamp_1 : decode b_Ru_beginRamp 1 = .ok (.getfield 22, 3) := dk_U2 a_Ru_beginRamp_1 (dko_180 _) rfl
theorem d_Ru_beginRamp_4 : decode b_Ru_beginRamp 4 = .ok (.iload_n 1, 1) := dk_0 a_Ru_beginRamp_4 (dko_27 _)
theorem d_Ru_beginRamp_5 : decode b_Ru_beginRamp 5 = .ok (.iaload, 1) := dk_0 a_Ru_beginRamp_5 (dko_46 _)
theorem d_Ru_beginRamp_6 : decode b_Ru_beginRamp 6 = .ok (.istore 4, 2) := dk_U1 a_Ru_beginRamp_6 (dko_54 _) rfl
theorem d_Ru_beginRamp_8 : decode b_Ru_beginRamp 8 = .ok (.aload_n 0, 1) := dk_0 a_Ru_beginRamp_8 (dko_42 _)
theorem d_Ru_beginRamp_9 : decode b_Ru_beginRamp 9 = .ok (.aload_n 0, 1) := dk_0 a_Ru_beginRamp_9 (dko_42 _)
theorem d_Ru_beginRamp_10 : decode b_Ru_beginRamp 10 = .ok (.getfield 12, 3) := dk_U2 a_Ru_beginRamp_10 (dko_180 _) rfl
theorem d_Ru_beginRamp_13 : decode b_Ru_beginRamp 13 = .ok (.getfield 131, 3) := dk_U2 a_Ru_beginRamp_13 (dko_180 _) rfl
theorem d_Ru_beginRamp_16 : decode b_Ru_beginRamp 16 = .ok (.iload 4, 2) := dk_U1 a_Ru_beginRamp_16 (dko_21 _) rfl
theorem d_Ru_beginRamp_18 : decode b_Ru_beginRamp 18 = .ok (.iaload, 1) := dk_0 a_Ru_beginRamp_18 (dko_46 _)
theorem d_Ru_beginRamp_19 : decode b_Ru_beginRamp 19 = .ok (.iload 4, 2) := dk_U1 a_Ru_beginRamp_19 (dko_21 _) rfl
theorem d_Ru_beginRamp_21 : decode b_Ru_beginRamp 21 = .ok (.invokevirtual 134, 3) := dk_U2 a_Ru_beginRamp_21 (dko_182 _) rfl
theorem d_Ru_beginRamp_24 : decode b_Ru_beginRamp 24 = .ok (.ldc2_w 187, 3) := dk_U2 a_Ru_beginRamp_24 (dko_20 _) rfl
theorem d_Ru_beginRamp_27 : decode b_Ru_beginRamp 27 = .ok (.ldiv, 1) := dk_0 a_Ru_beginRamp_27 (dko_109 _)
theorem d_Ru_beginRamp_28 : decode b_Ru_beginRamp 28 = .ok (.lstore 5, 2) := dk_U1 a_Ru_beginRamp_28 (dko_55 _) rfl
theorem d_Ru_beginRamp_30 : decode b_Ru_beginRamp 30 = .ok (.aload_n 0, 1) := dk_0 a_Ru_beginRamp_30 (dko_42 _)
theorem d_Ru_beginRamp_31 : decode b_Ru_beginRamp 31 = .ok (.invokevirtual 103, 3) := dk_U2 a_Ru_beginRamp_31 (dko_182 _) rfl
theorem d_Ru_beginRamp_34 : decode b_Ru_beginRamp 34 = .ok (.ifCond .eq 5, 3) := dk_S2 a_Ru_beginRamp_34 (dko_153 _) (by decide +kernel)
theorem d_Ru_beginRamp_37 : decode b_Ru_beginRamp 37 = .ok (.iconst 0, 1) := dk_0 a_Ru_beginRamp_37 (dko_3 _)
theorem d_Ru_beginRamp_38 : decode b_Ru_beginRamp 38 = .ok (.ireturn, 1) := dk_0 a_Ru_beginRamp_38 (dko_172 _)
theorem d_Ru_beginRamp_39 : decode b_Ru_beginRamp 39 = .ok (.lload 5, 2) := dk_U1 a_Ru_beginRamp_39 (dko_22 _) rfl
theorem d_Ru_beginRamp_41 : decode b_Ru_beginRamp 41 = .ok (.lconst 1, 1) := dk_0 a_Ru_beginRamp_41 (dko_10 _)
theorem d_Ru_beginRamp_42 : decode b_Ru_beginRamp 42 = .ok (.lcmp, 1) := dk_0 a_Ru_beginRamp_42 (dko_148 _)
theorem d_Ru_beginRamp_43 : decode b_Ru_beginRamp 43 = .ok (.ifCond .ge 12, 3) := dk_S2 a_Ru_beginRamp_43 (dko_156 _) (by decide +kernel)
theorem d_Ru_beginRamp_46 : decode b_Ru_beginRamp 46 = .ok (.aload_n 0, 1) := dk_0 a_Ru_beginRamp_46 (dko_42 _)
theorem d_Ru_beginRamp_47 : decode b_Ru_beginRamp 47 = .ok (.iload 4, 2) := dk_U1 a_Ru_beginRamp_47 (dko_21 _) rfl
theorem d_Ru_beginRamp_49 : decode b_Ru_beginRamp 49 = .ok (.lload_n 2, 1) := dk_0 a_Ru_beginRamp_49 (dko_32 _)
theorem d_Ru_beginRamp_50 : decode b_Ru_beginRamp 50 = .ok (.invokevirtual 183, 3) := dk_U2 a_Ru_beginRamp_50 (dko_182 _) rfl
theorem d_Ru_beginRamp_53 : decode b_Ru_beginRamp 53 = .ok (.iconst 1, 1) := dk_0 a_Ru_beginRamp_53 (dko_4 _)
theorem d_Ru_beginRamp_54 : decode b_Ru_beginRamp 54 = .ok (.ireturn, 1) := dk_0 a_Ru_beginRamp_54 (dko_172 _)
theorem d_Ru_beginRamp_55 : decode b_Ru_beginRamp 55 = .ok (.aload_n 0, 1) := dk_0 a_Ru_beginRamp_55 (dko_42 _)
theorem d_Ru_beginRamp_56 : decode b_Ru_beginRamp 56 = .ok (.getfield 38, 3) := dk_U2 a_Ru_beginRamp_56 (dko_180 _) rfl
theorem d_Ru_beginRamp_59 : decode b_Ru_beginRamp 59 = .ok (.iload_n 1, 1) := dk_0 a_Ru_beginRamp_59 (dko_27 _)
theorem d_Ru_beginRamp_60 : decode b_Ru_beginRamp 60 = .ok (.aload_n 0, 1) := dk_0 a_Ru_beginRamp_60 (dko_42 _)
theorem d_Ru_beginRamp_61 : decode b_Ru_beginRamp 61 = .ok (.getfield 85, 3) := dk_U2 a_Ru_beginRamp_61 (dko_180 _) rfl
theorem d_Ru_beginRamp_64 : decode b_Ru_beginRamp 64 = .ok (.lastore, 1) := dk_0 a_Ru_beginRamp_64 (dko_80 _)
theorem d_Ru_beginRamp_65 : decode b_Ru_beginRamp 65 = .ok (.aload_n 0, 1) := dk_0 a_Ru_beginRamp_65 (dko_42 _)
theorem d_Ru_beginRamp_66 : decode b_Ru_beginRamp 66 = .ok (.getfield 42, 3) := dk_U2 a_Ru_beginRamp_66 (dko_180 _) rfl
theorem d_Ru_beginRamp_69 : decode b_Ru_beginRamp 69 = .ok (.iload_n 1, 1) := dk_0 a_Ru_beginRamp_69 (dko_27 _)
theorem d_Ru_beginRamp_70 : decode b_Ru_beginRamp 70 = .ok (.lload 5, 2) := dk_U1 a_Ru_beginRamp_70 (dko_22 _) rfl
theorem d_Ru_beginRamp_72 : decode b_Ru_beginRamp 72 = .ok (.lastore, 1) := dk_0 a_Ru_beginRamp_72 (dko_80 _)
theorem d_Ru_beginRamp_73 : decode b_Ru_beginRamp 73 = .ok (.aload_n 0, 1) := dk_0 a_Ru_beginRamp_73 (dko_42 _)
theorem d_Ru_beginRamp_74 : decode b_Ru_beginRamp 74 = .ok (.getfield 45, 3) := dk_U2 a_Ru_beginRamp_74 (dko_180 _) rfl
theorem d_Ru_beginRamp_77 : decode b_Ru_beginRamp 77 = .ok (.iload_n 1, 1) := dk_0 a_Ru_beginRamp_77 (dko_27 _)
theorem d_Ru_beginRamp_78 : decode b_Ru_beginRamp 78 = .ok (.aload_n 0, 1) := dk_0 a_Ru_beginRamp_78 (dko_42 _)
theorem d_Ru_beginRamp_79 : decode b_Ru_beginRamp 79 = .ok (.getfield 12, 3) := dk_U2 a_Ru_beginRamp_79 (dko_180 _) rfl
theorem d_Ru_beginRamp_82 : decode b_Ru_beginRamp 82 = .ok (.getfield 193, 3) := dk_U2 a_Ru_beginRamp_82 (dko_180 _) rfl
theorem d_Ru_beginRamp_85 : decode b_Ru_beginRamp 85 = .ok (.aload_n 0, 1) := dk_0 a_Ru_beginRamp_85 (dko_42 _)
theorem d_Ru_beginRamp_86 : decode b_Ru_beginRamp 86 = .ok (.getfield 12, 3) := dk_U2 a_Ru_beginRamp_86 (dko_180 _) rfl
theorem d_Ru_beginRamp_89 : decode b_Ru_beginRamp 89 = .ok (.getfield 166, 3) := dk_U2 a_Ru_beginRamp_89 (dko_180 _) rfl
theorem d_Ru_beginRamp_92 : decode b_Ru_beginRamp 92 = .ok (.iload 4, 2) := dk_U1 a_Ru_beginRamp_92 (dko_21 _) rfl
theorem d_Ru_beginRamp_94 : decode b_Ru_beginRamp 94 = .ok (.iaload, 1) := dk_0 a_Ru_beginRamp_94 (dko_46 _)
theorem d_Ru_beginRamp_95 : decode b_Ru_beginRamp 95 = .ok (.laload, 1) := dk_0 a_Ru_beginRamp_95 (dko_47 _)
theorem d_Ru_beginRamp_96 : decode b_Ru_beginRamp 96 = .ok (.lastore, 1) := dk_0 a_Ru_beginRamp_96 (dko_80 _)
theorem d_Ru_beginRamp_97 : decode b_Ru_beginRamp 97 = .ok (.aload_n 0, 1) := dk_0 a_Ru_beginRamp_97 (dko_42 _)
theorem d_Ru_beginRamp_98 : decode b_Ru_beginRamp 98 = .ok (.getfield 48, 3) := dk_U2 a_Ru_beginRamp_98 (dko_180 _) rfl
theorem d_Ru_beginRamp_101 : decode b_Ru_beginRamp 101 = .ok (.iload_n 1, 1) := dk_0 a_Ru_beginRamp_101 (dko_27 _)
theorem d_Ru_beginRamp_102 : decode b_Ru_beginRamp 102 = .ok (.lload_n 2, 1) := dk_0 a_Ru_beginRamp_102 (dko_32 _)
theorem d_Ru_beginRamp_103 : decode b_Ru_beginRamp 103 = .ok (.lastore, 1) := dk_0 a_Ru_beginRamp_103 (dko_80 _)
theorem d_Ru_beginRamp_104 : decode b_Ru_beginRamp 104 = .ok (.aload_n 0, 1) := dk_0 a_Ru_beginRamp_104 (dko_42 _)
theorem d_Ru_beginRamp_105 : decode b_Ru_beginRamp 105 = .ok (.iload_n 1, 1) := dk_0 a_Ru_beginRamp_105 (dko_27 _)
theorem d_Ru_beginRamp_106 : decode b_Ru_beginRamp 106 = .ok (.invokevirtual 174, 3) := dk_U2 a_Ru_beginRamp_106 (dko_182 _) rfl
theorem d_Ru_beginRamp_109 : decode b_Ru_beginRamp 109 = .ok (.ireturn, 1) := dk_0 a_Ru_beginRamp_109 (dko_172 _)
set_option maxHeartbeats 4000000 in
set_option maxRecDepth 100000 in
theorem ok_Ru_beginRamp (pc : Nat) : OpS mt mi_Ru_beginRamp pc (cs_Ru_beginRamp pc) := (os_n (os_n (os_n (os_n (os_n (os_n (os_l (so_aload_n d_Ru_beginRamp_0 rfl)) (os_l (so_get (C := R_Ru) (T := F_Ru) (N := 21) (j := 6) in_Ru rfl (by decide) mw_519 d_Ru_beginRamp_1))) (os_n (os_l (so_iload_n d_Ru_beginRamp_4 rfl)) (os_l (so_iaload d_Ru_beginRamp_5)))) (os_n (os_n (os_l (so_istore d_Ru_beginRamp_6 (by decide))) (os_l (so_aload_n d_Ru_beginRamp_8 rfl))) (os_n (os_l (so_aload_n d_Ru_beginRamp_9 rfl)) (os_l (so_get (C := R_Ru) (T := F_Ru) (N := 21) (j := 3) in_Ru rfl (by decide) mw_514 d_Ru_beginRamp_10))))) (os_n (os_n (os_n (os_l (so_get (C := R_Pr) (T := F_Pr) (N := 18) (j := 6) in_Pr rfl (by decide) mw_447 d_Ru_beginRamp_13)) (os_l (so_iload d_Ru_beginRamp_16))) (os_n (os_l (so_iaload d_Ru_beginRamp_18)) (os_l (so_iload d_Ru_beginRamp_19)))) (os_n (os_n (os_l (so_callV (iv := mi_Ru_reckon) rfl rfl rfl mw_1357 mw_1359 sl_67 mw_11 mw_1360 ⟨by decide +kernel, by decide +kernel, by decide +kernel⟩ (by decide) d_Ru_beginRamp_21)) (os_l (so_ldc2 mw_1369 d_Ru_beginRamp_24))) (os_n (os_l (so_ldiv d_Ru_beginRamp_27)) (os_l (so_lstore d_Ru_beginRamp_28 (by decide))))))) (os_n (os_n (os_n (os_n (os_l (so_aload_n d_Ru_beginRamp_30 rfl)) (os_l (so_callV (iv := mi_Ru_isOver) rfl rfl rfl mw_1349 mw_1351 sl_65 mw_11 mw_1352 ⟨by decide +kernel, by decide +kernel, by decide +kernel⟩ (by decide) d_Ru_beginRamp_31))) (os_n (os_l (so_ifeq d_Ru_beginRamp_34 (by decide))) (os_l (so_iconst d_Ru_beginRamp_37 (by decide))))) (os_n (os_n (os_l (so_ireturn rfl d_Ru_beginRamp_38)) (os_l (so_lload d_Ru_beginRamp_39))) (os_n (os_l (so_lconst d_Ru_beginRamp_41 (by decide))) (os_l (so_lcmp d_Ru_beginRamp_42))))) (os_n (os_n (os_n (os_l (so_ifge d_Ru_beginRamp_43 (by decide))) (os_l (so_aload_n d_Ru_beginRamp_46 rfl))) (os_n (os_l (so_iload d_Ru_beginRamp_47)) (os_l (so_lload_n d_Ru_beginRamp_49 rfl)))) (os_n (os_n (os_l (so_callV (iv := mi_Ru_setValue) rfl rfl rfl mw_1394 mw_1396 sl_75 mw_11 mw_1397 ⟨by decide +kernel, by decide +kernel, by decide +kernel⟩ (by decide) d_Ru_beginRamp_50)) (os_l (so_iconst d_Ru_beginRamp_53 (by decide)))) (os_n (os_l (so_ireturn rfl d_Ru_beginRamp_54)) (os_l (so_aload_n d_Ru_beginRamp_55 rfl))))))) (os_n (os_n (os_n (os_n (os_n (os_l (so_get (C := R_Ru) (T := F_Ru) (N := 21) (j := 11) in_Ru rfl (by decide) mw_524 d_Ru_beginRamp_56)) (os_l (so_iload_n d_Ru_beginRamp_59 rfl))) (os_n (os_l (so_aload_n d_Ru_beginRamp_60 rfl)) (os_l (so_get (C := R_Ru) (T := F_Ru) (N := 21) (j := 17) in_Ru rfl (by decide) mw_530 d_Ru_beginRamp_61)))) (os_n (os_n (os_l (so_lastore d_Ru_beginRamp_64)) (os_l (so_aload_n d_Ru_beginRamp_65 rfl))) (os_n (os_l (so_get (C := R_Ru) (T := F_Ru) (N := 21) (j := 12) in_Ru rfl (by decide) mw_525 d_Ru_beginRamp_66)) (os_l (so_iload_n d_Ru_beginRamp_69 rfl))))) (os_n (os_n (os_n (os_l (so_lload d_Ru_beginRamp_70)) (os_l (so_lastore d_Ru_beginRamp_72))) (os_n (os_l (so_aload_n d_Ru_beginRamp_73 rfl)) (os_l (so_get (C := R_Ru) (T := F_Ru) (N := 21) (j := 13) in_Ru rfl (by decide) mw_526 d_Ru_beginRamp_74)))) (os_n (os_n (os_l (so_iload_n d_Ru_beginRamp_77 rfl)) (os_l (so_aload_n d_Ru_beginRamp_78 rfl))) (os_n (os_l (so_get (C := R_Ru) (T := F_Ru) (N := 21) (j := 3) in_Ru rfl (by decide) mw_514 d_Ru_beginRamp_79)) (os_l (so_get (C := R_Pr) (T := F_Pr) (N := 18) (j := 15) in_Pr rfl (by decide) mw_469 d_Ru_beginRamp_82)))))) (os_n (os_n (os_n (os_n (os_l (so_aload_n d_Ru_beginRamp_85 rfl)) (os_l (so_get (C := R_Ru) (T := F_Ru) (N := 21) (j := 3) in_Ru rfl (by decide) mw_514 d_Ru_beginRamp_86))) (os_n (os_l (so_get (C := R_Pr) (T := F_Pr) (N := 18) (j := 4) in_Pr rfl (by decide) mw_442 d_Ru_beginRamp_89)) (os_l (so_iload d_Ru_beginRamp_92)))) (os_n (os_n (os_l (so_iaload d_Ru_beginRamp_94)) (os_l (so_laload d_Ru_beginRamp_95))) (os_n (os_l (so_lastore d_Ru_beginRamp_96)) (os_l (so_aload_n d_Ru_beginRamp_97 rfl))))) (os_n (os_n (os_n (os_l (so_get (C := R_Ru) (T := F_Ru) (N := 21) (j := 14) in_Ru rfl (by decide) mw_527 d_Ru_beginRamp_98)) (os_l (so_iload_n d_Ru_beginRamp_101 rfl))) (os_n (os_l (so_lload_n d_Ru_beginRamp_102 rfl)) (os_l (so_lastore d_Ru_beginRamp_103)))) (os_n (os_n (os_l (so_aload_n d_Ru_beginRamp_104 rfl)) (os_l (so_iload_n d_Ru_beginRamp_105 rfl))) (os_n (os_l (so_callV (iv := mi_Ru_stand) rfl rfl rfl mw_1405 mw_1407 sl_77 mw_11 mw_1408 ⟨by decide +kernel, by decide +kernel, by decide +kernel⟩ (by decide) d_Ru_beginRamp_106)) (os_l (so_ireturn rfl d_Ru_beginRamp_109))))))))
abbrev t_Ru_lookAgain_140 : List UInt8 := 172 :: []
abbrev t_Ru_lookAgain_139 : List UInt8 := 5 :: t_Ru_lookAgain_140
abbrev t_Ru_lookAgain_138 : List UInt8 := 172 :: t_Ru_lookAgain_139
abbrev t_Ru_lookAgain_137 : List UInt8 := 3 :: t_Ru_lookAgain_138
abbrev t_Ru_lookAgain_134 : List UInt8 := 167 :: 0 :: 4 :: t_Ru_lookAgain_137
abbrev t_Ru_lookAgain_133 : List UInt8 := 4 :: t_Ru_lookAgain_134
abbrev t_Ru_lookAgain_130 : List UInt8 := 153 :: 0 :: 7 :: t_Ru_lookAgain_133
abbrev t_Ru_lookAgain_129 : List UInt8 := 148 :: t_Ru_lookAgain_130
abbrev t_Ru_lookAgain_128 : List UInt8 := 9 :: t_Ru_lookAgain_129
abbrev t_Ru_lookAgain_127 : List UInt8 := 47 :: t_Ru_lookAgain_128
abbrev t_Ru_lookAgain_126 : List UInt8 := 27 :: t_Ru_lookAgain_127
abbrev t_Ru_lookAgain_123 : List UInt8 := 180 :: 0 :: 38 :: t_Ru_lookAgain_126
abbrev t_Ru_lookAgain_122 : List UInt8 := 42 :: t_Ru_lookAgain_123
abbrev t_Ru_lookAgain_121 : List UInt8 := 172 :: t_Ru_lookAgain_122
abbrev t_Ru_lookAgain_118 : List UInt8 := 182 :: 0 :: 196 :: t_Ru_lookAgain_121
abbrev t_Ru_lookAgain_117 : List UInt8 := 101 :: t_Ru_lookAgain_118
abbrev t_Ru_lookAgain_116 : List UInt8 := 47 :: t_Ru_lookAgain_117
abbrev t_Ru_lookAgain_115 : List UInt8 := 27 :: t_Ru_lookAgain_116
abbrev t_Ru_lookAgain_112 : List UInt8 := 180 :: 0 :: 38 :: t_Ru_lookAgain_115
abbrev t_Ru_lookAgain_111 : List UInt8 := 42 :: t_Ru_lookAgain_112
abbrev t_Ru_lookAgain_108 : List UInt8 := 180 :: 0 :: 85 :: t_Ru_lookAgain_111
abbrev t_Ru_lookAgain_107 : List UInt8 := 42 :: t_Ru_lookAgain_108
abbrev t_Ru_lookAgain_106 : List UInt8 := 27 :: t_Ru_lookAgain_107
abbrev t_Ru_lookAgain_105 : List UInt8 := 42 :: t_Ru_lookAgain_106
abbrev t_Ru_lookAgain_104 : List UInt8 := 172 :: t_Ru_lookAgain_105
abbrev t_Ru_lookAgain_103 : List UInt8 := 3 :: t_Ru_lookAgain_104
abbrev t_Ru_lookAgain_100 : List UInt8 := 167 :: 0 :: 4 :: t_Ru_lookAgain_103
abbrev t_Ru_lookAgain_99 : List UInt8 := 4 :: t_Ru_lookAgain_100
abbrev t_Ru_lookAgain_96 : List UInt8 := 153 :: 0 :: 7 :: t_Ru_lookAgain_99
abbrev t_Ru_lookAgain_95 : List UInt8 := 148 :: t_Ru_lookAgain_96
abbrev t_Ru_lookAgain_94 : List UInt8 := 9 :: t_Ru_lookAgain_95
abbrev t_Ru_lookAgain_91 : List UInt8 := 182 :: 0 :: 134 :: t_Ru_lookAgain_94
abbrev t_Ru_lookAgain_90 : List UInt8 := 46 :: t_Ru_lookAgain_91
abbrev t_Ru_lookAgain_89 : List UInt8 := 29 :: t_Ru_lookAgain_90
abbrev t_Ru_lookAgain_86 : List UInt8 := 180 :: 0 :: 131 :: t_Ru_lookAgain_89
abbrev t_Ru_lookAgain_83 : List UInt8 := 180 :: 0 :: 12 :: t_Ru_lookAgain_86
abbrev t_Ru_lookAgain_82 : List UInt8 := 42 :: t_Ru_lookAgain_83
abbrev t_Ru_lookAgain_81 : List UInt8 := 46 :: t_Ru_lookAgain_82
abbrev t_Ru_lookAgain_80 : List UInt8 := 29 :: t_Ru_lookAgain_81
abbrev t_Ru_lookAgain_77 : List UInt8 := 180 :: 0 :: 128 :: t_Ru_lookAgain_80
abbrev t_Ru_lookAgain_74 : List UInt8 := 180 :: 0 :: 12 :: t_Ru_lookAgain_77
abbrev t_Ru_lookAgain_73 : List UInt8 := 42 :: t_Ru_lookAgain_74
abbrev t_Ru_lookAgain_72 : List UInt8 := 42 :: t_Ru_lookAgain_73
abbrev t_Ru_lookAgain_71 : List UInt8 := 172 :: t_Ru_lookAgain_72
abbrev t_Ru_lookAgain_70 : List UInt8 := 3 :: t_Ru_lookAgain_71
abbrev t_Ru_lookAgain_67 : List UInt8 := 167 :: 0 :: 4 :: t_Ru_lookAgain_70
abbrev t_Ru_lookAgain_66 : List UInt8 := 4 :: t_Ru_lookAgain_67
abbrev t_Ru_lookAgain_63 : List UInt8 := 157 :: 0 :: 7 :: t_Ru_lookAgain_66
abbrev t_Ru_lookAgain_62 : List UInt8 := 148 :: t_Ru_lookAgain_63
abbrev t_Ru_lookAgain_59 : List UInt8 := 180 :: 0 :: 85 :: t_Ru_lookAgain_62
abbrev t_Ru_lookAgain_58 : List UInt8 := 42 :: t_Ru_lookAgain_59
abbrev t_Ru_lookAgain_57 : List UInt8 := 47 :: t_Ru_lookAgain_58
abbrev t_Ru_lookAgain_56 : List UInt8 := 27 :: t_Ru_lookAgain_57
abbrev t_Ru_lookAgain_53 : List UInt8 := 180 :: 0 :: 38 :: t_Ru_lookAgain_56
abbrev t_Ru_lookAgain_52 : List UInt8 := 42 :: t_Ru_lookAgain_53
abbrev t_Ru_lookAgain_8 : List UInt8 := 171 :: 0 :: 0 :: 0 :: 0 :: 0 :: 0 :: 131 :: 0 :: 0 :: 0 :: 4 :: 0 :: 0 :: 0 :: 12 :: 0 :: 0 :: 0 :: 44 :: 0 :: 0 :: 0 :: 13 :: 0 :: 0 :: 0 :: 64 :: 0 :: 0 :: 0 :: 14 :: 0 :: 0 :: 0 :: 97 :: 0 :: 0 :: 0 :: 22 :: 0 :: 0 :: 0 :: 114 :: t_Ru_lookAgain_52
abbrev t_Ru_lookAgain_7 : List UInt8 := 28 :: t_Ru_lookAgain_8
abbrev t_Ru_lookAgain_6 : List UInt8 := 62 :: t_Ru_lookAgain_7
abbrev t_Ru_lookAgain_5 : List UInt8 := 46 :: t_Ru_lookAgain_6
abbrev t_Ru_lookAgain_4 : List UInt8 := 27 :: t_Ru_lookAgain_5
abbrev t_Ru_lookAgain_1 : List UInt8 := 180 :: 0 :: 22 :: t_Ru_lookAgain_4
abbrev t_Ru_lookAgain_0 : List UInt8 := 42 :: t_Ru_lookAgain_1
theorem a_Ru_lookAgain_0 : dk_at b_Ru_lookAgain 0 t_Ru_lookAgain_0 := dk_start (by decide +kernel)
theorem a_Ru_lookAgain_1 : dk_at b_Ru_lookAgain 1 t_Ru_lookAgain_1 := dk_go 1 a_Ru_lookAgain_0 rfl
theorem a_Ru_lookAgain_4 : dk_at b_Ru_lookAgain 4 t_Ru_lookAgain_4 := dk_go 3 a_Ru_lookAgain_1 rfl
theorem a_Ru_lookAgain_5 : dk_at b_Ru_lookAgain 5 t_Ru_lookAgain_5 := dk_go 1 a_Ru_lookAgain_4 rfl
theorem a_Ru_lookAgain_6 : dk_at b_Ru_lookAgain 6 t_Ru_lookAgain_6 := dk_go 1 a_Ru_lookAgain_5 rfl
theorem a_Ru_lookAgain_7 : dk_at b_Ru_lookAgain 7 t_Ru_lookAgain_7 := dk_go 1 a_Ru_lookAgain_6 rfl
theorem a_Ru_lookAgain_8 : dk_at b_Ru_lookAgain 8 t_Ru_lookAgain_8 := dk_go 1 a_Ru_lookAgain_7 rfl
theorem a_Ru_lookAgain_52 : dk_at b_Ru_lookAgain 52 t_Ru_lookAgain_52 := dk_go 44 a_Ru_lookAgain_8 rfl
theorem a_Ru_lookAgain_53 : dk_at b_Ru_lookAgain 53 t_Ru_lookAgain_53 := dk_go 1 a_Ru_lookAgain_52 rfl
theorem a_Ru_lookAgain_56 : dk_at b_Ru_lookAgain 56 t_Ru_lookAgain_56 := dk_go 3 a_Ru_lookAgain_53 rfl
theorem a_Ru_lookAgain_57 : dk_at b_Ru_lookAgain 57 t_Ru_lookAgain_57 := dk_go 1 a_Ru_lookAgain_56 rfl
theorem a_Ru_lookAgain_58 : dk_at b_Ru_lookAgain 58 t_Ru_lookAgain_58 := dk_go 1 a_Ru_lookAgain_57 rfl
theorem a_Ru_lookAgain_59 : dk_at b_Ru_lookAgain 59 t_Ru_lookAgain_59 := dk_go 1 a_Ru_lookAgain_58 rfl
theorem a_Ru_lookAgain_62 : dk_at b_Ru_lookAgain 62 t_Ru_lookAgain_62 := dk_go 3 a_Ru_lookAgain_59 rfl
theorem a_Ru_lookAgain_63 : dk_at b_Ru_lookAgain 63 t_Ru_lookAgain_63 := dk_go 1 a_Ru_lookAgain_62 rfl
theorem a_Ru_lookAgain_66 : dk_at b_Ru_lookAgain 66 t_Ru_lookAgain_66 := dk_go 3 a_Ru_lookAgain_63 rfl
theorem a_Ru_lookAgain_67 : dk_at b_Ru_lookAgain 67 t_Ru_lookAgain_67 := dk_go 1 a_Ru_lookAgain_66 rfl
theorem a_Ru_lookAgain_70 : dk_at b_Ru_lookAgain 70 t_Ru_lookAgain_70 := dk_go 3 a_Ru_lookAgain_67 rfl
theorem a_Ru_lookAgain_71 : dk_at b_Ru_lookAgain 71 t_Ru_lookAgain_71 := dk_go 1 a_Ru_lookAgain_70 rfl
theorem a_Ru_lookAgain_72 : dk_at b_Ru_lookAgain 72 t_Ru_lookAgain_72 := dk_go 1 a_Ru_lookAgain_71 rfl
theorem a_Ru_lookAgain_73 : dk_at b_Ru_lookAgain 73 t_Ru_lookAgain_73 := dk_go 1 a_Ru_lookAgain_72 rfl
theorem a_Ru_lookAgain_74 : dk_at b_Ru_lookAgain 74 t_Ru_lookAgain_74 := dk_go 1 a_Ru_lookAgain_73 rfl
theorem a_Ru_lookAgain_77 : dk_at b_Ru_lookAgain 77 t_Ru_lookAgain_77 := dk_go 3 a_Ru_lookAgain_74 rfl
theorem a_Ru_lookAgain_80 : dk_at b_Ru_lookAgain 80 t_Ru_lookAgain_80 := dk_go 3 a_Ru_lookAgain_77 rfl
theorem a_Ru_lookAgain_81 : dk_at b_Ru_lookAgain 81 t_Ru_lookAgain_81 := dk_go 1 a_Ru_lookAgain_80 rfl
theorem a_Ru_lookAgain_82 : dk_at b_Ru_lookAgain 82 t_Ru_lookAgain_82 := dk_go 1 a_Ru_lookAgain_81 rfl
theorem a_Ru_lookAgain_83 : dk_at b_Ru_lookAgain 83 t_Ru_lookAgain_83 := dk_go 1 a_Ru_lookAgain_82 rfl
theorem a_Ru_lookAgain_86 : dk_at b_Ru_lookAgain 86 t_Ru_lookAgain_86 := dk_go 3 a_Ru_lookAgain_83 rfl
theorem a_Ru_lookAgain_89 : dk_at b_Ru_lookAgain 89 t_Ru_lookAgain_89 := dk_go 3 a_Ru_lookAgain_86 rfl
theorem a_Ru_lookAgain_90 : dk_at b_Ru_lookAgain 90 t_Ru_lookAgain_90 := dk_go 1 a_Ru_lookAgain_89 rfl
theorem a_Ru_lookAgain_91 : dk_at b_Ru_lookAgain 91 t_Ru_lookAgain_91 := dk_go 1 a_Ru_lookAgain_90 rfl
theorem a_Ru_lookAgain_94 : dk_at b_Ru_lookAgain 94 t_Ru_lookAgain_94 := dk_go 3 a_Ru_lookAgain_91 rfl
theorem a_Ru_lookAgain_95 : dk_at b_Ru_lookAgain 95 t_Ru_lookAgain_95 := dk_go 1 a_Ru_lookAgain_94 rfl
theorem a_Ru_lookAgain_96 : dk_at b_Ru_lookAgain 96 t_Ru_lookAgain_96 := dk_go 1 a_Ru_lookAgain_95 rfl
theorem a_Ru_lookAgain_99 : dk_at b_Ru_lookAgain 99 t_Ru_lookAgain_99 := dk_go 3 a_Ru_lookAgain_96 rfl
theorem a_Ru_lookAgain_100 : dk_at b_Ru_lookAgain 100 t_Ru_lookAgain_100 := dk_go 1 a_Ru_lookAgain_99 rfl
theorem a_Ru_lookAgain_103 : dk_at b_Ru_lookAgain 103 t_Ru_lookAgain_103 := dk_go 3 a_Ru_lookAgain_100 rfl
theorem a_Ru_lookAgain_104 : dk_at b_Ru_lookAgain 104 t_Ru_lookAgain_104 := dk_go 1 a_Ru_lookAgain_103 rfl
theorem a_Ru_lookAgain_105 : dk_at b_Ru_lookAgain 105 t_Ru_lookAgain_105 := dk_go 1 a_Ru_lookAgain_104 rfl
theorem a_Ru_lookAgain_106 : dk_at b_Ru_lookAgain 106 t_Ru_lookAgain_106 := dk_go 1 a_Ru_lookAgain_105 rfl
theorem a_Ru_lookAgain_107 : dk_at b_Ru_lookAgain 107 t_Ru_lookAgain_107 := dk_go 1 a_Ru_lookAgain_106 rfl
theorem a_Ru_lookAgain_108 : dk_at b_Ru_lookAgain 108 t_Ru_lookAgain_108 := dk_go 1 a_Ru_lookAgain_107 rfl
theorem a_Ru_lookAgain_111 : dk_at b_Ru_lookAgain 111 t_Ru_lookAgain_111 := dk_go 3 a_Ru_lookAgain_108 rfl
theorem a_Ru_lookAgain_112 : dk_at b_Ru_lookAgain 112 t_Ru_lookAgain_112 := dk_go 1 a_Ru_lookAgain_111 rfl
theorem a_Ru_lookAgain_115 : dk_at b_Ru_lookAgain 115 t_Ru_lookAgain_115 := dk_go 3 a_Ru_lookAgain_112 rfl
theorem a_Ru_lookAgain_116 : dk_at b_Ru_lookAgain 116 t_Ru_lookAgain_116 := dk_go 1 a_Ru_lookAgain_115 rfl
theorem a_Ru_lookAgain_117 : dk_at b_Ru_lookAgain 117 t_Ru_lookAgain_117 := dk_go 1 a_Ru_lookAgain_116 rfl
theorem a_Ru_lookAgain_118 : dk_at b_Ru_lookAgain 118 t_Ru_lookAgain_118 := dk_go 1 a_Ru_lookAgain_117 rfl
theorem a_Ru_lookAgain_121 : dk_at b_Ru_lookAgain 121 t_Ru_lookAgain_121 := dk_go 3 a_Ru_lookAgain_118 rfl
theorem a_Ru_lookAgain_122 : dk_at b_Ru_lookAgain 122 t_Ru_lookAgain_122 := dk_go 1 a_Ru_lookAgain_121 rfl
theorem a_Ru_lookAgain_123 : dk_at b_Ru_lookAgain 123 t_Ru_lookAgain_123 := dk_go 1 a_Ru_lookAgain_122 rfl
theorem a_Ru_lookAgain_126 : dk_at b_Ru_lookAgain 126 t_Ru_lookAgain_126 := dk_go 3 a_Ru_lookAgain_123 rfl
theorem a_Ru_lookAgain_127 : dk_at b_Ru_lookAgain 127 t_Ru_lookAgain_127 := dk_go 1 a_Ru_lookAgain_126 rfl
theorem a_Ru_lookAgain_128 : dk_at b_Ru_lookAgain 128 t_Ru_lookAgain_128 := dk_go 1 a_Ru_lookAgain_127 rfl
theorem a_Ru_lookAgain_129 : dk_at b_Ru_lookAgain 129 t_Ru_lookAgain_129 := dk_go 1 a_Ru_lookAgain_128 rfl
theorem a_Ru_lookAgain_130 : dk_at b_Ru_lookAgain 130 t_Ru_lookAgain_130 := dk_go 1 a_Ru_lookAgain_129 rfl
theorem a_Ru_lookAgain_133 : dk_at b_Ru_lookAgain 133 t_Ru_lookAgain_133 := dk_go 3 a_Ru_lookAgain_130 rfl
theorem a_Ru_lookAgain_134 : dk_at b_Ru_lookAgain 134 t_Ru_lookAgain_134 := dk_go 1 a_Ru_lookAgain_133 rfl
theorem a_Ru_lookAgain_137 : dk_at b_Ru_lookAgain 137 t_Ru_lookAgain_137 := dk_go 3 a_Ru_lookAgain_134 rfl
theorem a_Ru_lookAgain_138 : dk_at b_Ru_lookAgain 138 t_Ru_lookAgain_138 := dk_go 1 a_Ru_lookAgain_137 rfl
theorem a_Ru_lookAgain_139 : dk_at b_Ru_lookAgain 139 t_Ru_lookAgain_139 := dk_go 1 a_Ru_lookAgain_138 rfl
theorem a_Ru_lookAgain_140 : dk_at b_Ru_lookAgain 140 t_Ru_lookAgain_140 := dk_go 1 a_Ru_lookAgain_139 rfl
theorem d_Ru_lookAgain_0 : decode b_Ru_lookAgain 0 = .ok (.aload_n 0, 1) := dk_0 a_Ru_lookAgain_0 (dko_42 _)
theorem d_Ru_lookAgain_1 : decode b_Ru_lookAgain 1 = .ok (.getfield 22, 3) := dk_U2 a_Ru_lookAgain_1 (dko_180 _) rfl
theorem d_Ru_lookAgain_4 : decode b_Ru_lookAgain 4 = .ok (.iload_n 1, 1) := dk_0 a_Ru_lookAgain_4 (dko_27 _)
theorem d_Ru_lookAgain_5 : decode b_Ru_lookAgain 5 = .ok (.iaload, 1) := dk_0 a_Ru_lookAgain_5 (dko_46 _)
theorem d_Ru_lookAgain_6 : decode b_Ru_lookAgain 6 = .ok (.istore_n 3, 1) := dk_0 a_Ru_lookAgain_6 (dko_62 _)
theorem d_Ru_lookAgain_7 : decode b_Ru_lookAgain 7 = .ok (.iload_n 2, 1) := dk_0 a_Ru_lookAgain_7 (dko_28 _)
theorem d_Ru_lookAgain_8 : decode b_Ru_lookAgain 8 = .ok (.lookupswitch 131 #[(12, 44), (13, 64), (14, 97), (22, 114)], 44) := by decide +kernel
theorem d_Ru_lookAgain_52 : decode b_Ru_lookAgain 52 = .ok (.aload_n 0, 1) := dk_0 a_Ru_lookAgain_52 (dko_42 _)
theorem d_Ru_lookAgain_53 : decode b_Ru_lookAgain 53 = .ok (.getfield 38, 3) := dk_U2 a_Ru_lookAgain_53 (dko_180 _) rfl
theorem d_Ru_lookAgain_56 : decode b_Ru_lookAgain 56 = .ok (.iload_n 1, 1) := dk_0 a_Ru_lookAgain_56 (dko_27 _)
theorem d_Ru_lookAgain_57 : decode b_Ru_lookAgain 57 = .ok (.laload, 1) := dk_0 a_Ru_lookAgain_57 (dko_47 _)
theorem d_Ru_lookAgain_58 : decode b_Ru_lookAgain 58 = .ok (.aload_n 0, 1) := dk_0 a_Ru_lookAgain_58 (dko_42 _)
theorem d_Ru_lookAgain_59 : decode b_Ru_lookAgain 59 = .ok (.getfield 85, 3) := dk_U2 a_Ru_lookAgain_59 (dko_180 _) rfl
theorem d_Ru_lookAgain_62 : decode b_Ru_lookAgain 62 = .ok (.lcmp, 1) := dk_0 a_Ru_lookAgain_62 (dko_148 _)
theorem d_Ru_lookAgain_63 : decode b_Ru_lookAgain 63 = .ok (.ifCond .gt 7, 3) := dk_S2 a_Ru_lookAgain_63 (dko_157 _) (by decide +kernel)
theorem d_Ru_lookAgain_66 : decode b_Ru_lookAgain 66 = .ok (.iconst 1, 1) := dk_0 a_Ru_lookAgain_66 (dko_4 _)
theorem d_Ru_lookAgain_67 : decode b_Ru_lookAgain 67 = .ok (.goto 4, 3) := dk_S2 a_Ru_lookAgain_67 (dko_167 _) (by decide +kernel)
theorem d_Ru_lookAgain_70 : decode b_Ru_lookAgain 70 = .ok (.iconst 0, 1) := dk_0 a_Ru_lookAgain_70 (dko_3 _)
theorem d_Ru_lookAgain_71 : decode b_Ru_lookAgain 71 = .ok (.ireturn, 1) := dk_0 a_Ru_lookAgain_71 (dko_172 _)
theorem d_Ru_lookAgain_72 : decode b_Ru_lookAgain 72 = .ok (.aload_n 0, 1) := dk_0 a_Ru_lookAgain_72 (dko_42 _)
theorem d_Ru_lookAgain_73 : decode b_Ru_lookAgain 73 = .ok (.aload_n 0, 1) := dk_0 a_Ru_lookAgain_73 (dko_42 _)
theorem d_Ru_lookAgain_74 : decode b_Ru_lookAgain 74 = .ok (.getfield 12, 3) := dk_U2 a_Ru_lookAgain_74 (dko_180 _) rfl
theorem d_Ru_lookAgain_77 : decode b_Ru_lookAgain 77 = .ok (.getfield 128, 3) := dk_U2 a_Ru_lookAgain_77 (dko_180 _) rfl
theorem d_Ru_lookAgain_80 : decode b_Ru_lookAgain 80 = .ok (.iload_n 3, 1) := dk_0 a_Ru_lookAgain_80 (dko_29 _)
theorem d_Ru_lookAgain_81 : decode b_Ru_lookAgain 81 = .ok (.iaload, 1) := dk_0 a_Ru_lookAgain_81 (dko_46 _)
theorem d_Ru_lookAgain_82 : decode b_Ru_lookAgain 82 = .ok (.aload_n 0, 1) := dk_0 a_Ru_lookAgain_82 (dko_42 _)
theorem d_Ru_lookAgain_83 : decode b_Ru_lookAgain 83 = .ok (.getfield 12, 3) := dk_U2 a_Ru_lookAgain_83 (dko_180 _) rfl
theorem d_Ru_lookAgain_86 : decode b_Ru_lookAgain 86 = .ok (.getfield 131, 3) := dk_U2 a_Ru_lookAgain_86 (dko_180 _) rfl
theorem d_Ru_lookAgain_89 : decode b_Ru_lookAgain 89 = .ok (.iload_n 3, 1) := dk_0 a_Ru_lookAgain_89 (dko_29 _)
theorem d_Ru_lookAgain_90 : decode b_Ru_lookAgain 90 = .ok (.iaload, 1) := dk_0 a_Ru_lookAgain_90 (dko_46 _)
theorem d_Ru_lookAgain_91 : decode b_Ru_lookAgain 91 = .ok (.invokevirtual 134, 3) := dk_U2 a_Ru_lookAgain_91 (dko_182 _) rfl
theorem d_Ru_lookAgain_94 : decode b_Ru_lookAgain 94 = .ok (.lconst 0, 1) := dk_0 a_Ru_lookAgain_94 (dko_9 _)
theorem d_Ru_lookAgain_95 : decode b_Ru_lookAgain 95 = .ok (.lcmp, 1) := dk_0 a_Ru_lookAgain_95 (dko_148 _)
theorem d_Ru_lookAgain_96 : decode b_Ru_lookAgain 96 = .ok (.ifCond .eq 7, 3) := dk_S2 a_Ru_lookAgain_96 (dko_153 _) (by decide +kernel)
theorem d_Ru_lookAgain_99 : decode b_Ru_lookAgain 99 = .ok (.iconst 1, 1) := dk_0 a_Ru_lookAgain_99 (dko_4 _)
theorem d_Ru_lookAgain_100 : decode b_Ru_lookAgain 100 = .ok (.goto 4, 3) := dk_S2 a_Ru_lookAgain_100 (dko_167 _) (by decide +kernel)
theorem d_Ru_lookAgain_103 : decode b_Ru_lookAgain 103 = .ok (.iconst 0, 1) := dk_0 a_Ru_lookAgain_103 (dko_3 _)
theorem d_Ru_lookAgain_104 : decode b_Ru_lookAgain 104 = .ok (.ireturn, 1) := dk_0 a_Ru_lookAgain_104 (dko_172 _)
theorem d_Ru_lookAgain_105 : decode b_Ru_lookAgain 105 = .ok (.aload_n 0, 1) := dk_0 a_Ru_lookAgain_105 (dko_42 _)
theorem d_Ru_lookAgain_106 : decode b_Ru_lookAgain 106 = .ok (.iload_n 1, 1) := dk_0 a_Ru_lookAgain_106 (dko_27 _)
theorem d_Ru_lookAgain_107 : decode b_Ru_lookAgain 107 = .ok (.aload_n 0, 1) := dk_0 a_Ru_lookAgain_107 (dko_42 _)
theorem d_Ru_lookAgain_108 : decode b_Ru_lookAgain 108 = .ok (.getfield 85, 3) := dk_U2 a_Ru_lookAgain_108 (dko_180 _) rfl
theorem d_Ru_lookAgain_111 : decode b_Ru_lookAgain 111 = .ok (.aload_n 0, 1) := dk_0 a_Ru_lookAgain_111 (dko_42 _)
theorem d_Ru_lookAgain_112 : decode b_Ru_lookAgain 112 = .ok (.getfield 38, 3) := dk_U2 a_Ru_lookAgain_112 (dko_180 _) rfl
theorem d_Ru_lookAgain_115 : decode b_Ru_lookAgain 115 = .ok (.iload_n 1, 1) := dk_0 a_Ru_lookAgain_115 (dko_27 _)
theorem d_Ru_lookAgain_116 : decode b_Ru_lookAgain 116 = .ok (.laload, 1) := dk_0 a_Ru_lookAgain_116 (dko_47 _)
theorem d_Ru_lookAgain_117 : decode b_Ru_lookAgain 117 = .ok (.lsub, 1) := dk_0 a_Ru_lookAgain_117 (dko_101 _)
theorem d_Ru_lookAgain_118 : decode b_Ru_lookAgain 118 = .ok (.invokevirtual 196, 3) := dk_U2 a_Ru_lookAgain_118 (dko_182 _) rfl
theorem d_Ru_lookAgain_121 : decode b_Ru_lookAgain 121 = .ok (.ireturn, 1) := dk_0 a_Ru_lookAgain_121 (dko_172 _)
theorem d_Ru_lookAgain_122 : decode b_Ru_lookAgain 122 = .ok (.aload_n 0, 1) := dk_0 a_Ru_lookAgain_122 (dko_42 _)
theorem d_Ru_lookAgain_123 : decode b_Ru_lookAgain 123 = .ok (.getfield 38, 3) := dk_U2 a_Ru_lookAgain_123 (dko_180 _) rfl
theorem d_Ru_lookAgain_126 : decode b_Ru_lookAgain 126 = .ok (.iload_n 1, 1) := dk_0 a_Ru_lookAgain_126 (dko_27 _)
theorem d_Ru_lookAgain_127 : decode b_Ru_lookAgain 127 = .ok (.laload, 1) := dk_0 a_Ru_lookAgain_127 (dko_47 _)
theorem d_Ru_lookAgain_128 : decode b_Ru_lookAgain 128 = .ok (.lconst 0, 1) := dk_0 a_Ru_lookAgain_128 (dko_9 _)
theorem d_Ru_lookAgain_129 : decode b_Ru_lookAgain 129 = .ok (.lcmp, 1) := dk_0 a_Ru_lookAgain_129 (dko_148 _)
theorem d_Ru_lookAgain_130 : decode b_Ru_lookAgain 130 = .ok (.ifCond .eq 7, 3) := dk_S2 a_Ru_lookAgain_130 (dko_153 _) (by decide +kernel)
theorem d_Ru_lookAgain_133 : decode b_Ru_lookAgain 133 = .ok (.iconst 1, 1) := dk_0 a_Ru_lookAgain_133 (dko_4 _)
theorem d_Ru_lookAgain_134 : decode b_Ru_lookAgain 134 = .ok (.goto 4, 3) := dk_S2 a_Ru_lookAgain_134 (dko_167 _) (by decide +kernel)
theorem d_Ru_lookAgain_137 : decode b_Ru_lookAgain 137 = .ok (.iconst 0, 1) := dk_0 a_Ru_lookAgain_137 (dko_3 _)
theorem d_Ru_lookAgain_138 : decode b_Ru_lookAgain 138 = .ok (.ireturn, 1) := dk_0 a_Ru_lookAgain_138 (dko_172 _)
theorem d_Ru_lookAgain_139 : decode b_Ru_lookAgain 139 = .ok (.iconst 2, 1) := dk_0 a_Ru_lookAgain_139 (dko_5 _)
theorem d_Ru_lookAgain_140 : decode b_Ru_lookAgain 140 = .ok (.ireturn, 1) := dk_0 a_Ru_lookAgain_140 (dko_172 _)
set_option maxHeartbeats 4000000 in
set_option maxRecDepth 100000 in
theorem ok_Ru_lookAgain (pc : Nat) : OpS mt mi_Ru_lookAgain pc (cs_Ru_lookAgain pc) := (os_n (os_n (os_n (os_n (os_n (os_l (so_aload_n d_Ru_lookAgain_0 rfl)) (os_n (os_l (so_get (C := R_Ru) (T := F_Ru) (N := 21) (j := 6) in_Ru rfl (by decide) mw_519 d_Ru_lookAgain_1)) (os_l (so_iload_n d_Ru_lookAgain_4 rfl)))) (os_n (os_n (os_l (so_iaload d_Ru_lookAgain_5)) (os_l (so_istore_n d_Ru_lookAgain_6 rfl (by decide)))) (os_n (os_l (so_iload_n d_Ru_lookAgain_7 rfl)) (os_l (so_lookup d_Ru_lookAgain_8 (by decide) (lk_off _ _ _ (by decide) _ _ (by decide))))))) (os_n (os_n (os_n (os_l (so_aload_n d_Ru_lookAgain_52 rfl)) (os_l (so_get (C := R_Ru) (T := F_Ru) (N := 21) (j := 11) in_Ru rfl (by decide) mw_524 d_Ru_lookAgain_53))) (os_n (os_l (so_iload_n d_Ru_lookAgain_56 rfl)) (os_l (so_laload d_Ru_lookAgain_57)))) (os_n (os_n (os_l (so_aload_n d_Ru_lookAgain_58 rfl)) (os_l (so_get (C := R_Ru) (T := F_Ru) (N := 21) (j := 17) in_Ru rfl (by decide) mw_530 d_Ru_lookAgain_59))) (os_n (os_l (so_lcmp d_Ru_lookAgain_62)) (os_l (so_ifgt d_Ru_lookAgain_63 (by decide))))))) (os_n (os_n (os_n (os_n (os_l (so_iconst d_Ru_lookAgain_66 (by decide))) (os_l (so_goto d_Ru_lookAgain_67 (by decide)))) (os_n (os_l (so_iconst d_Ru_lookAgain_70 (by decide))) (os_l (so_ireturn rfl d_Ru_lookAgain_71)))) (os_n (os_n (os_l (so_aload_n d_Ru_lookAgain_72 rfl)) (os_l (so_aload_n d_Ru_lookAgain_73 rfl))) (os_n (os_l (so_get (C := R_Ru) (T := F_Ru) (N := 21) (j := 3) in_Ru rfl (by decide) mw_514 d_Ru_lookAgain_74)) (os_l (so_get (C := R_Pr) (T := F_Pr) (N := 18) (j := 5) in_Pr rfl (by decide) mw_444 d_Ru_lookAgain_77))))) (os_n (os_n (os_n (os_l (so_iload_n d_Ru_lookAgain_80 rfl)) (os_l (so_iaload d_Ru_lookAgain_81))) (os_n (os_l (so_aload_n d_Ru_lookAgain_82 rfl)) (os_l (so_get (C := R_Ru) (T := F_Ru) (N := 21) (j := 3) in_Ru rfl (by decide) mw_514 d_Ru_lookAgain_83)))) (os_n (os_n (os_l (so_get (C := R_Pr) (T := F_Pr) (N := 18) (j := 6) in_Pr rfl (by decide) mw_447 d_Ru_lookAgain_86)) (os_l (so_iload_n d_Ru_lookAgain_89 rfl))) (os_n (os_l (so_iaload d_Ru_lookAgain_90)) (os_l (so_callV (iv := mi_Ru_reckon) rfl rfl rfl mw_1357 mw_1359 sl_67 mw_11 mw_1360 ⟨by decide +kernel, by decide +kernel, by decide +kernel⟩ (by decide) d_Ru_lookAgain_91))))))) (os_n (os_n (os_n (os_n (os_l (so_lconst d_Ru_lookAgain_94 (by decide))) (os_n (os_l (so_lcmp d_Ru_lookAgain_95)) (os_l (so_ifeq d_Ru_lookAgain_96 (by decide))))) (os_n (os_n (os_l (so_iconst d_Ru_lookAgain_99 (by decide))) (os_l (so_goto d_Ru_lookAgain_100 (by decide)))) (os_n (os_l (so_iconst d_Ru_lookAgain_103 (by decide))) (os_l (so_ireturn rfl d_Ru_lookAgain_104))))) (os_n (os_n (os_n (os_l (so_aload_n d_Ru_lookAgain_105 rfl)) (os_l (so_iload_n d_Ru_lookAgain_106 rfl))) (os_n (os_l (so_aload_n d_Ru_lookAgain_107 rfl)) (os_l (so_get (C := R_Ru) (T := F_Ru) (N := 21) (j := 17) in_Ru rfl (by decide) mw_530 d_Ru_lookAgain_108)))) (os_n (os_n (os_l (so_aload_n d_Ru_lookAgain_111 rfl)) (os_l (so_get (C := R_Ru) (T := F_Ru) (N := 21) (j := 11) in_Ru rfl (by decide) mw_524 d_Ru_lookAgain_112))) (os_n (os_l (so_iload_n d_Ru_lookAgain_115 rfl)) (os_l (so_laload d_Ru_lookAgain_116)))))) (os_n (os_n (os_n (os_n (os_l (so_lsub d_Ru_lookAgain_117)) (os_l (so_callV (iv := mi_Ru_rampOn) rfl rfl rfl mw_1390 mw_1392 sl_74 mw_11 mw_1393 ⟨by decide +kernel, by decide +kernel, by decide +kernel⟩ (by decide) d_Ru_lookAgain_118))) (os_n (os_l (so_ireturn rfl d_Ru_lookAgain_121)) (os_l (so_aload_n d_Ru_lookAgain_122 rfl)))) (os_n (os_n (os_l (so_get (C := R_Ru) (T := F_Ru) (N := 21) (j := 11) in_Ru rfl (by decide) mw_524 d_Ru_lookAgain_123)) (os_l (so_iload_n d_Ru_lookAgain_126 rfl))) (os_n (os_l (so_laload d_Ru_lookAgain_127)) (os_l (so_lconst d_Ru_lookAgain_128 (by decide)))))) (os_n (os_n (os_n (os_l (so_lcmp d_Ru_lookAgain_129)) (os_l (so_ifeq d_Ru_lookAgain_130 (by decide)))) (os_n (os_l (so_iconst d_Ru_lookAgain_133 (by decide))) (os_l (so_goto d_Ru_lookAgain_134 (by decide))))) (os_n (os_n (os_l (so_iconst d_Ru_lookAgain_137 (by decide))) (os_l (so_ireturn rfl d_Ru_lookAgain_138))) (os_n (os_l (so_iconst d_Ru_lookAgain_139 (by decide))) (os_l (so_ireturn rfl d_Ru_lookAgain_140))))))))
abbrev t_Ru_rampOn_82 : List UInt8 := 172 :: []
abbrev t_Ru_rampOn_81 : List UInt8 := 3 :: t_Ru_rampOn_82
abbrev t_Ru_rampOn_78 : List UInt8 := 182 :: 0 :: 183 :: t_Ru_rampOn_81
abbrev t_Ru_rampOn_77 : List UInt8 := 97 :: t_Ru_rampOn_78
abbrev t_Ru_rampOn_74 : List UInt8 := 184 :: 0 :: 199 :: t_Ru_rampOn_77
abbrev t_Ru_rampOn_73 : List UInt8 := 47 :: t_Ru_rampOn_74
abbrev t_Ru_rampOn_72 : List UInt8 := 27 :: t_Ru_rampOn_73
abbrev t_Ru_rampOn_69 : List UInt8 := 180 :: 0 :: 42 :: t_Ru_rampOn_72
abbrev t_Ru_rampOn_68 : List UInt8 := 42 :: t_Ru_rampOn_69
abbrev t_Ru_rampOn_67 : List UInt8 := 105 :: t_Ru_rampOn_68
abbrev t_Ru_rampOn_66 : List UInt8 := 32 :: t_Ru_rampOn_67
abbrev t_Ru_rampOn_65 : List UInt8 := 101 :: t_Ru_rampOn_66
abbrev t_Ru_rampOn_64 : List UInt8 := 47 :: t_Ru_rampOn_65
abbrev t_Ru_rampOn_63 : List UInt8 := 27 :: t_Ru_rampOn_64
abbrev t_Ru_rampOn_60 : List UInt8 := 180 :: 0 :: 45 :: t_Ru_rampOn_63
abbrev t_Ru_rampOn_59 : List UInt8 := 42 :: t_Ru_rampOn_60
abbrev t_Ru_rampOn_58 : List UInt8 := 47 :: t_Ru_rampOn_59
abbrev t_Ru_rampOn_57 : List UInt8 := 27 :: t_Ru_rampOn_58
abbrev t_Ru_rampOn_54 : List UInt8 := 180 :: 0 :: 48 :: t_Ru_rampOn_57
abbrev t_Ru_rampOn_53 : List UInt8 := 42 :: t_Ru_rampOn_54
abbrev t_Ru_rampOn_52 : List UInt8 := 47 :: t_Ru_rampOn_53
abbrev t_Ru_rampOn_51 : List UInt8 := 27 :: t_Ru_rampOn_52
abbrev t_Ru_rampOn_48 : List UInt8 := 180 :: 0 :: 45 :: t_Ru_rampOn_51
abbrev t_Ru_rampOn_47 : List UInt8 := 42 :: t_Ru_rampOn_48
abbrev t_Ru_rampOn_46 : List UInt8 := 46 :: t_Ru_rampOn_47
abbrev t_Ru_rampOn_45 : List UInt8 := 27 :: t_Ru_rampOn_46
abbrev t_Ru_rampOn_42 : List UInt8 := 180 :: 0 :: 22 :: t_Ru_rampOn_45
abbrev t_Ru_rampOn_41 : List UInt8 := 42 :: t_Ru_rampOn_42
abbrev t_Ru_rampOn_40 : List UInt8 := 42 :: t_Ru_rampOn_41
abbrev t_Ru_rampOn_39 : List UInt8 := 172 :: t_Ru_rampOn_40
abbrev t_Ru_rampOn_38 : List UInt8 := 4 :: t_Ru_rampOn_39
abbrev t_Ru_rampOn_35 : List UInt8 := 182 :: 0 :: 183 :: t_Ru_rampOn_38
abbrev t_Ru_rampOn_34 : List UInt8 := 47 :: t_Ru_rampOn_35
abbrev t_Ru_rampOn_33 : List UInt8 := 27 :: t_Ru_rampOn_34
abbrev t_Ru_rampOn_30 : List UInt8 := 180 :: 0 :: 48 :: t_Ru_rampOn_33
abbrev t_Ru_rampOn_29 : List UInt8 := 42 :: t_Ru_rampOn_30
abbrev t_Ru_rampOn_28 : List UInt8 := 46 :: t_Ru_rampOn_29
abbrev t_Ru_rampOn_27 : List UInt8 := 27 :: t_Ru_rampOn_28
abbrev t_Ru_rampOn_24 : List UInt8 := 180 :: 0 :: 22 :: t_Ru_rampOn_27
abbrev t_Ru_rampOn_23 : List UInt8 := 42 :: t_Ru_rampOn_24
abbrev t_Ru_rampOn_22 : List UInt8 := 42 :: t_Ru_rampOn_23
abbrev t_Ru_rampOn_19 : List UInt8 := 156 :: 0 :: 21 :: t_Ru_rampOn_22
abbrev t_Ru_rampOn_18 : List UInt8 := 148 :: t_Ru_rampOn_19
abbrev t_Ru_rampOn_17 : List UInt8 := 10 :: t_Ru_rampOn_18
abbrev t_Ru_rampOn_16 : List UInt8 := 47 :: t_Ru_rampOn_17
abbrev t_Ru_rampOn_15 : List UInt8 := 27 :: t_Ru_rampOn_16
abbrev t_Ru_rampOn_12 : List UInt8 := 180 :: 0 :: 42 :: t_Ru_rampOn_15
abbrev t_Ru_rampOn_11 : List UInt8 := 42 :: t_Ru_rampOn_12
abbrev t_Ru_rampOn_8 : List UInt8 := 156 :: 0 :: 14 :: t_Ru_rampOn_11
abbrev t_Ru_rampOn_7 : List UInt8 := 148 :: t_Ru_rampOn_8
abbrev t_Ru_rampOn_6 : List UInt8 := 47 :: t_Ru_rampOn_7
abbrev t_Ru_rampOn_5 : List UInt8 := 27 :: t_Ru_rampOn_6
abbrev t_Ru_rampOn_2 : List UInt8 := 180 :: 0 :: 42 :: t_Ru_rampOn_5
abbrev t_Ru_rampOn_1 : List UInt8 := 42 :: t_Ru_rampOn_2
abbrev t_Ru_rampOn_0 : List UInt8 := 32 :: t_Ru_rampOn_1
theorem a_Ru_rampOn_0 : dk_at b_Ru_rampOn 0 t_Ru_rampOn_0 := dk_start (by decide +kernel)
theorem a_Ru_rampOn_1 : dk_at b_Ru_rampOn 1 t_Ru_rampOn_1 := dk_go 1 a_Ru_rampOn_0 rfl
theorem a_Ru_rampOn_2 : dk_at b_Ru_rampOn 2 t_Ru_rampOn_2 := dk_go 1 a_Ru_rampOn_1 rfl
theorem a_Ru_rampOn_5 : dk_at b_Ru_rampOn 5 t_Ru_rampOn_5 := dk_go 3 a_Ru_rampOn_2 rfl
theorem a_Ru_rampOn_6 : dk_at b_Ru_rampOn 6 t_Ru_rampOn_6 := dk_go 1 a_Ru_rampOn_5 rfl
theorem a_Ru_rampOn_7 : dk_at b_Ru_rampOn 7 t_Ru_rampOn_7 := dk_go 1 a_Ru_rampOn_6 rfl
theorem a_Ru_rampOn_8 : dk_at b_Ru_rampOn 8 t_Ru_rampOn_8 := dk_go 1 a_Ru_rampOn_7 rfl
theorem a_Ru_rampOn_11 : dk_at b_Ru_rampOn 11 t_Ru_rampOn_11 := dk_go 3 a_Ru_rampOn_8 rfl
theorem a_Ru_rampOn_12 : dk_at b_Ru_rampOn 12 t_Ru_rampOn_12 := dk_go 1 a_Ru_rampOn_11 rfl
theorem a_Ru_rampOn_15 : dk_at b_Ru_rampOn 15 t_Ru_rampOn_15 := dk_go 3 a_Ru_rampOn_12 rfl
theorem a_Ru_rampOn_16 : dk_at b_Ru_rampOn 16 t_Ru_rampOn_16 := dk_go 1 a_Ru_rampOn_15 rfl
theorem a_Ru_rampOn_17 : dk_at b_Ru_rampOn 17 t_Ru_rampOn_17 := dk_go 1 a_Ru_rampOn_16 rfl
theorem a_Ru_rampOn_18 : dk_at b_Ru_rampOn 18 t_Ru_rampOn_18 := dk_go 1 a_Ru_rampOn_17 rfl
theorem a_Ru_rampOn_19 : dk_at b_Ru_rampOn 19 t_Ru_rampOn_19 := dk_go 1 a_Ru_rampOn_18 rfl
theorem a_Ru_rampOn_22 : dk_at b_Ru_rampOn 22 t_Ru_rampOn_22 := dk_go 3 a_Ru_rampOn_19 rfl
theorem a_Ru_rampOn_23 : dk_at b_Ru_rampOn 23 t_Ru_rampOn_23 := dk_go 1 a_Ru_rampOn_22 rfl
theorem a_Ru_rampOn_24 : dk_at b_Ru_rampOn 24 t_Ru_rampOn_24 := dk_go 1 a_Ru_rampOn_23 rfl
theorem a_Ru_rampOn_27 : dk_at b_Ru_rampOn 27 t_Ru_rampOn_27 := dk_go 3 a_Ru_rampOn_24 rfl
theorem a_Ru_rampOn_28 : dk_at b_Ru_rampOn 28 t_Ru_rampOn_28 := dk_go 1 a_Ru_rampOn_27 rfl
theorem a_Ru_rampOn_29 : dk_at b_Ru_rampOn 29 t_Ru_rampOn_29 := dk_go 1 a_Ru_rampOn_28 rfl
theorem a_Ru_rampOn_30 : dk_at b_Ru_rampOn 30 t_Ru_rampOn_30 := dk_go 1 a_Ru_rampOn_29 rfl
theorem a_Ru_rampOn_33 : dk_at b_Ru_rampOn 33 t_Ru_rampOn_33 := dk_go 3 a_Ru_rampOn_30 rfl
theorem a_Ru_rampOn_34 : dk_at b_Ru_rampOn 34 t_Ru_rampOn_34 := dk_go 1 a_Ru_rampOn_33 rfl
theorem a_Ru_rampOn_35 : dk_at b_Ru_rampOn 35 t_Ru_rampOn_35 := dk_go 1 a_Ru_rampOn_34 rfl
theorem a_Ru_rampOn_38 : dk_at b_Ru_rampOn 38 t_Ru_rampOn_38 := dk_go 3 a_Ru_rampOn_35 rfl
theorem a_Ru_rampOn_39 : dk_at b_Ru_rampOn 39 t_Ru_rampOn_39 := dk_go 1 a_Ru_rampOn_38 rfl
theorem a_Ru_rampOn_40 : dk_at b_Ru_rampOn 40 t_Ru_rampOn_40 := dk_go 1 a_Ru_rampOn_39 rfl
theorem a_Ru_rampOn_41 : dk_at b_Ru_rampOn 41 t_Ru_rampOn_41 := dk_go 1 a_Ru_rampOn_40 rfl
theorem a_Ru_rampOn_42 : dk_at b_Ru_rampOn 42 t_Ru_rampOn_42 := dk_go 1 a_Ru_rampOn_41 rfl
theorem a_Ru_rampOn_45 : dk_at b_Ru_rampOn 45 t_Ru_rampOn_45 := dk_go 3 a_Ru_rampOn_42 rfl
theorem a_Ru_rampOn_46 : dk_at b_Ru_rampOn 46 t_Ru_rampOn_46 := dk_go 1 a_Ru_rampOn_45 rfl
theorem a_Ru_rampOn_47 : dk_at b_Ru_rampOn 47 t_Ru_rampOn_47 := dk_go 1 a_Ru_rampOn_46 rfl
theorem a_Ru_rampOn_48 : dk_at b_Ru_rampOn 48 t_Ru_rampOn_48 := dk_go 1 a_Ru_rampOn_47 rfl
theorem a_Ru_rampOn_51 : dk_at b_Ru_rampOn 51 t_Ru_rampOn_51 := dk_go 3 a_Ru_rampOn_48 rfl
theorem a_Ru_rampOn_52 : dk_at b_Ru_rampOn 52 t_Ru_rampOn_52 := dk_go 1 a_Ru_rampOn_51 rfl
theorem a_Ru_rampOn_53 : dk_at b_Ru_rampOn 53 t_Ru_rampOn_53 := dk_go 1 a_Ru_rampOn_52 rfl
theorem a_Ru_rampOn_54 : dk_at b_Ru_rampOn 54 t_Ru_rampOn_54 := dk_go 1 a_Ru_rampOn_53 rfl
theorem a_Ru_rampOn_57 : dk_at b_Ru_rampOn 57 t_Ru_rampOn_57 := dk_go 3 a_Ru_rampOn_54 rfl
theorem a_Ru_rampOn_58 : dk_at b_Ru_rampOn 58 t_Ru_rampOn_58 := dk_go 1 a_Ru_rampOn_57 rfl
theorem a_Ru_rampOn_59 : dk_at b_Ru_rampOn 59 t_Ru_rampOn_59 := dk_go 1 a_Ru_rampOn_58 rfl
theorem a_Ru_rampOn_60 : dk_at b_Ru_rampOn 60 t_Ru_rampOn_60 := dk_go 1 a_Ru_rampOn_59 rfl
theorem a_Ru_rampOn_63 : dk_at b_Ru_rampOn 63 t_Ru_rampOn_63 := dk_go 3 a_Ru_rampOn_60 rfl
theorem a_Ru_rampOn_64 : dk_at b_Ru_rampOn 64 t_Ru_rampOn_64 := dk_go 1 a_Ru_rampOn_63 rfl
theorem a_Ru_rampOn_65 : dk_at b_Ru_rampOn 65 t_Ru_rampOn_65 := dk_go 1 a_Ru_rampOn_64 rfl
theorem a_Ru_rampOn_66 : dk_at b_Ru_rampOn 66 t_Ru_rampOn_66 := dk_go 1 a_Ru_rampOn_65 rfl
theorem a_Ru_rampOn_67 : dk_at b_Ru_rampOn 67 t_Ru_rampOn_67 := dk_go 1 a_Ru_rampOn_66 rfl
theorem a_Ru_rampOn_68 : dk_at b_Ru_rampOn 68 t_Ru_rampOn_68 := dk_go 1 a_Ru_rampOn_67 rfl
theorem a_Ru_rampOn_69 : dk_at b_Ru_rampOn 69 t_Ru_rampOn_69 := dk_go 1 a_Ru_rampOn_68 rfl
theorem a_Ru_rampOn_72 : dk_at b_Ru_rampOn 72 t_Ru_rampOn_72 := dk_go 3 a_Ru_rampOn_69 rfl
theorem a_Ru_rampOn_73 : dk_at b_Ru_rampOn 73 t_Ru_rampOn_73 := dk_go 1 a_Ru_rampOn_72 rfl
theorem a_Ru_rampOn_74 : dk_at b_Ru_rampOn 74 t_Ru_rampOn_74 := dk_go 1 a_Ru_rampOn_73 rfl
theorem a_Ru_rampOn_77 : dk_at b_Ru_rampOn 77 t_Ru_rampOn_77 := dk_go 3 a_Ru_rampOn_74 rfl
theorem a_Ru_rampOn_78 : dk_at b_Ru_rampOn 78 t_Ru_rampOn_78 := dk_go 1 a_Ru_rampOn_77 rfl
theorem a_Ru_rampOn_81 : dk_at b_Ru_rampOn 81 t_Ru_rampOn_81 := dk_go 3 a_Ru_rampOn_78 rfl
theorem a_Ru_rampOn_82 : dk_at b_Ru_rampOn 82 t_Ru_rampOn_82 := dk_go 1 a_Ru_rampOn_81 rfl
theorem d_Ru_rampOn_0 : decode b_Ru_rampOn 0 = .ok (.lload_n 2, 1) := dk_0 a_Ru_rampOn_0 (dko_32 _)
theorem d_Ru_rampOn_1 : decode b_Ru_rampOn 1 = .ok (.aload_n 0, 1) := dk_0 a_Ru_rampOn_1 (dko_42 _)
theorem d_Ru_rampOn_2 : decode b_Ru_rampOn 2 = .ok (.getfield 42, 3) := dk_U2 a_Ru_rampOn_2 (dko_180 _) rfl
theorem d_Ru_rampOn_5 : decode b_Ru_rampOn 5 = .ok (.iload_n 1, 1) := dk_0 a_Ru_rampOn_5 (dko_27 _)
theorem d_Ru_rampOn_6 : decode b_Ru_rampOn 6 = .ok (.laload, 1) := dk_0 a_Ru_rampOn_6 (dko_47 _)
theorem d_Ru_rampOn_7 : decode b_Ru_rampOn 7 = .ok (.lcmp, 1) := dk_0 a_Ru_rampOn_7 (dko_148 _)
theorem d_Ru_rampOn_8 : decode b_Ru_rampOn 8 = .ok (.ifCond .ge 14, 3) := dk_S2 a_Ru_rampOn_8 (dko_156 _) (by decide +kernel)
theorem d_Ru_rampOn_11 : decode b_Ru_rampOn 11 = .ok (.aload_n 0, 1) := dk_0 a_Ru_rampOn_11 (dko_42 _)
theorem d_Ru_rampOn_12 : decode b_Ru_rampOn 12 = .ok (.getfield 42, 3) := dk_U2 a_Ru_rampOn_12 (dko_180 _) rfl
theorem d_Ru_rampOn_15 : decode b_Ru_rampOn 15 = .ok (.iload_n 1, 1) := dk_0 a_Ru_rampOn_15 (dko_27 _)
theorem d_Ru_rampOn_16 : decode b_Ru_rampOn 16 = .ok (.laload, 1) := dk_0 a_Ru_rampOn_16 (dko_47 _)
theorem d_Ru_rampOn_17 : decode b_Ru_rampOn 17 = .ok (.lconst 1, 1) := dk_0 a_Ru_rampOn_17 (dko_10 _)
theorem d_Ru_rampOn_18 : decode b_Ru_rampOn 18 = .ok (.lcmp, 1) := dk_0 a_Ru_rampOn_18 (dko_148 _)
theorem d_Ru_rampOn_19 : decode b_Ru_rampOn 19 = .ok (.ifCond .ge 21, 3) := dk_S2 a_Ru_rampOn_19 (dko_156 _) (by decide +kernel)
theorem d_Ru_rampOn_22 : decode b_Ru_rampOn 22 = .ok (.aload_n 0, 1) := dk_0 a_Ru_rampOn_22 (dko_42 _)
theorem d_Ru_rampOn_23 : decode b_Ru_rampOn 23 = .ok (.aload_n 0, 1) := dk_0 a_Ru_rampOn_23 (dko_42 _)
theorem d_Ru_rampOn_24 : decode b_Ru_rampOn 24 = .ok (.getfield 22, 3) := dk_U2 a_Ru_rampOn_24 (dko_180 _) rfl
theorem d_Ru_rampOn_27 : decode b_Ru_rampOn 27 = .ok (.iload_n 1, 1) := dk_0 a_Ru_rampOn_27 (dko_27 _)
theorem d_Ru_rampOn_28 : decode b_Ru_rampOn 28 = .ok (.iaload, 1) := dk_0 a_Ru_rampOn_28 (dko_46 _)
theorem d_Ru_rampOn_29 : decode b_Ru_rampOn 29 = .ok (.aload_n 0, 1) := dk_0 a_Ru_rampOn_29 (dko_42 _)
theorem d_Ru_rampOn_30 : decode b_Ru_rampOn 30 = .ok (.getfield 48, 3) := dk_U2 a_Ru_rampOn_30 (dko_180 _) rfl
theorem d_Ru_rampOn_33 : decode b_Ru_rampOn 33 = .ok (.iload_n 1, 1) := dk_0 a_Ru_rampOn_33 (dko_27 _)
theorem d_Ru_rampOn_34 : decode b_Ru_rampOn 34 = .ok (.laload, 1) := dk_0 a_Ru_rampOn_34 (dko_47 _)
theorem d_Ru_rampOn_35 : decode b_Ru_rampOn 35 = .ok (.invokevirtual 183, 3) := dk_U2 a_Ru_rampOn_35 (dko_182 _) rfl
theorem d_Ru_rampOn_38 : decode b_Ru_rampOn 38 = .ok (.iconst 1, 1) := dk_0 a_Ru_rampOn_38 (dko_4 _)
theorem d_Ru_rampOn_39 : decode b_Ru_rampOn 39 = .ok (.ireturn, 1) := dk_0 a_Ru_rampOn_39 (dko_172 _)
theorem d_Ru_rampOn_40 : decode b_Ru_rampOn 40 = .ok (.aload_n 0, 1) := dk_0 a_Ru_rampOn_40 (dko_42 _)
theorem d_Ru_rampOn_41 : decode b_Ru_rampOn 41 = .ok (.aload_n 0, 1) := dk_0 a_Ru_rampOn_41 (dko_42 _)
theorem d_Ru_rampOn_42 : decode b_Ru_rampOn 42 = .ok (.getfield 22, 3) := dk_U2 a_Ru_rampOn_42 (dko_180 _) rfl
theorem d_Ru_rampOn_45 : decode b_Ru_rampOn 45 = .ok (.iload_n 1, 1) := dk_0 a_Ru_rampOn_45 (dko_27 _)
theorem d_Ru_rampOn_46 : decode b_Ru_rampOn 46 = .ok (.iaload, 1) := dk_0 a_Ru_rampOn_46 (dko_46 _)
theorem d_Ru_rampOn_47 : decode b_Ru_rampOn 47 = .ok (.aload_n 0, 1) := dk_0 a_Ru_rampOn_47 (dko_42 _)
theorem d_Ru_rampOn_48 : decode b_Ru_rampOn 48 = .ok (.getfield 45, 3) := dk_U2 a_Ru_rampOn_48 (dko_180 _) rfl
theorem d_Ru_rampOn_51 : decode b_Ru_rampOn 51 = .ok (.iload_n 1, 1) := dk_0 a_Ru_rampOn_51 (dko_27 _)
theorem d_Ru_rampOn_52 : decode b_Ru_rampOn 52 = .ok (.laload, 1) := dk_0 a_Ru_rampOn_52 (dko_47 _)
theorem d_Ru_rampOn_53 : decode b_Ru_rampOn 53 = .ok (.aload_n 0, 1) := dk_0 a_Ru_rampOn_53 (dko_42 _)
theorem d_Ru_rampOn_54 : decode b_Ru_rampOn 54 = .ok (.getfield 48, 3) := dk_U2 a_Ru_rampOn_54 (dko_180 _) rfl
theorem d_Ru_rampOn_57 : decode b_Ru_rampOn 57 = .ok (.iload_n 1, 1) := dk_0 a_Ru_rampOn_57 (dko_27 _)
theorem d_Ru_rampOn_58 : decode b_Ru_rampOn 58 = .ok (.laload, 1) := dk_0 a_Ru_rampOn_58 (dko_47 _)
theorem d_Ru_rampOn_59 : decode b_Ru_rampOn 59 = .ok (.aload_n 0, 1) := dk_0 a_Ru_rampOn_59 (dko_42 _)
theorem d_Ru_rampOn_60 : decode b_Ru_rampOn 60 = .ok (.getfield 45, 3) := dk_U2 a_Ru_rampOn_60 (dko_180 _) rfl
theorem d_Ru_rampOn_63 : decode b_Ru_rampOn 63 = .ok (.iload_n 1, 1) := dk_0 a_Ru_rampOn_63 (dko_27 _)
theorem d_Ru_rampOn_64 : decode b_Ru_rampOn 64 = .ok (.laload, 1) := dk_0 a_Ru_rampOn_64 (dko_47 _)
theorem d_Ru_rampOn_65 : decode b_Ru_rampOn 65 = .ok (.lsub, 1) := dk_0 a_Ru_rampOn_65 (dko_101 _)
theorem d_Ru_rampOn_66 : decode b_Ru_rampOn 66 = .ok (.lload_n 2, 1) := dk_0 a_Ru_rampOn_66 (dko_32 _)
theorem d_Ru_rampOn_67 : decode b_Ru_rampOn 67 = .ok (.lmul, 1) := dk_0 a_Ru_rampOn_67 (dko_105 _)
theorem d_Ru_rampOn_68 : decode b_Ru_rampOn 68 = .ok (.aload_n 0, 1) := dk_0 a_Ru_rampOn_68 (dko_42 _)
theorem d_Ru_rampOn_69 : decode b_Ru_rampOn 69 = .ok (.getfield 42, 3) := dk_U2 a_Ru_rampOn_69 (dko_180 _) rfl
theorem d_Ru_rampOn_72 : decode b_Ru_rampOn 72 = .ok (.iload_n 1, 1) := dk_0 a_Ru_rampOn_72 (dko_27 _)
theorem d_Ru_rampOn_73 : decode b_Ru_rampOn 73 = .ok (.laload, 1) := dk_0 a_Ru_rampOn_73 (dko_47 _)
theorem d_Ru_rampOn_74 : decode b_Ru_rampOn 74 = .ok (.invokestatic 199, 3) := dk_U2 a_Ru_rampOn_74 (dko_184 _) rfl
theorem d_Ru_rampOn_77 : decode b_Ru_rampOn 77 = .ok (.ladd, 1) := dk_0 a_Ru_rampOn_77 (dko_97 _)
theorem d_Ru_rampOn_78 : decode b_Ru_rampOn 78 = .ok (.invokevirtual 183, 3) := dk_U2 a_Ru_rampOn_78 (dko_182 _) rfl
theorem d_Ru_rampOn_81 : decode b_Ru_rampOn 81 = .ok (.iconst 0, 1) := dk_0 a_Ru_rampOn_81 (dko_3 _)
theorem d_Ru_rampOn_82 : decode b_Ru_rampOn 82 = .ok (.ireturn, 1) := dk_0 a_Ru_rampOn_82 (dko_172 _)
set_option maxHeartbeats 4000000 in
set_option maxRecDepth 100000 in
theorem ok_Ru_rampOn (pc : Nat) : OpS mt mi_Ru_rampOn pc (cs_Ru_rampOn pc) := (os_n (os_n (os_n (os_n (os_n (os_l (so_lload_n d_Ru_rampOn_0 rfl)) (os_n (os_l (so_aload_n d_Ru_rampOn_1 rfl)) (os_l (so_get (C := R_Ru) (T := F_Ru) (N := 21) (j := 12) in_Ru rfl (by decide) mw_525 d_Ru_rampOn_2)))) (os_n (os_l (so_iload_n d_Ru_rampOn_5 rfl)) (os_n (os_l (so_laload d_Ru_rampOn_6)) (os_l (so_lcmp d_Ru_rampOn_7))))) (os_n (os_n (os_l (so_ifge d_Ru_rampOn_8 (by decide))) (os_n (os_l (so_aload_n d_Ru_rampOn_11 rfl)) (os_l (so_get (C := R_Ru) (T := F_Ru) (N := 21) (j := 12) in_Ru rfl (by decide) mw_525 d_Ru_rampOn_12)))) (os_n (os_n (os_l (so_iload_n d_Ru_rampOn_15 rfl)) (os_l (so_laload d_Ru_rampOn_16))) (os_n (os_l (so_lconst d_Ru_rampOn_17 (by decide))) (os_l (so_lcmp d_Ru_rampOn_18)))))) (os_n (os_n (os_n (os_l (so_ifge d_Ru_rampOn_19 (by decide))) (os_n (os_l (so_aload_n d_Ru_rampOn_22 rfl)) (os_l (so_aload_n d_Ru_rampOn_23 rfl)))) (os_n (os_n (os_l (so_get (C := R_Ru) (T := F_Ru) (N := 21) (j := 6) in_Ru rfl (by decide) mw_519 d_Ru_rampOn_24)) (os_l (so_iload_n d_Ru_rampOn_27 rfl))) (os_n (os_l (so_iaload d_Ru_rampOn_28)) (os_l (so_aload_n d_Ru_rampOn_29 rfl))))) (os_n (os_n (os_l (so_get (C := R_Ru) (T := F_Ru) (N := 21) (j := 14) in_Ru rfl (by decide) mw_527 d_Ru_rampOn_30)) (os_n (os_l (so_iload_n d_Ru_rampOn_33 rfl)) (os_l (so_laload d_Ru_rampOn_34)))) (os_n (os_n (os_l (so_callV (iv := mi_Ru_setValue) rfl rfl rfl mw_1394 mw_1396 sl_75 mw_11 mw_1397 ⟨by decide +kernel, by decide +kernel, by decide +kernel⟩ (by decide) d_Ru_rampOn_35)) (os_l (so_iconst d_Ru_rampOn_38 (by decide)))) (os_n (os_l (so_ireturn rfl d_Ru_rampOn_39)) (os_l (so_aload_n d_Ru_rampOn_40 rfl))))))) (os_n (os_n (os_n (os_n (os_l (so_aload_n d_Ru_rampOn_41 rfl)) (os_n (os_l (so_get (C := R_Ru) (T := F_Ru) (N := 21) (j := 6) in_Ru rfl (by decide) mw_519 d_Ru_rampOn_42)) (os_l (so_iload_n d_Ru_rampOn_45 rfl)))) (os_n (os_n (os_l (so_iaload d_Ru_rampOn_46)) (os_l (so_aload_n d_Ru_rampOn_47 rfl))) (os_n (os_l (so_get (C := R_Ru) (T := F_Ru) (N := 21) (j := 13) in_Ru rfl (by decide) mw_526 d_Ru_rampOn_48)) (os_l (so_iload_n d_Ru_rampOn_51 rfl))))) (os_n (os_n (os_l (so_laload d_Ru_rampOn_52)) (os_n (os_l (so_aload_n d_Ru_rampOn_53 rfl)) (os_l (so_get (C := R_Ru) (T := F_Ru) (N := 21) (j := 14) in_Ru rfl (by decide) mw_527 d_Ru_rampOn_54)))) (os_n (os_n (os_l (so_iload_n d_Ru_rampOn_57 rfl)) (os_l (so_laload d_Ru_rampOn_58))) (os_n (os_l (so_aload_n d_Ru_rampOn_59 rfl)) (os_l (so_get (C := R_Ru) (T := F_Ru) (N := 21) (j := 13) in_Ru rfl (by decide) mw_526 d_Ru_rampOn_60)))))) (os_n (os_n (os_n (os_l (so_iload_n d_Ru_rampOn_63 rfl)) (os_n (os_l (so_laload d_Ru_rampOn_64)) (os_l (so_lsub d_Ru_rampOn_65)))) (os_n (os_n (os_l (so_lload_n d_Ru_rampOn_66 rfl)) (os_l (so_lmul d_Ru_rampOn_67))) (os_n (os_l (so_aload_n d_Ru_rampOn_68 rfl)) (os_l (so_get (C := R_Ru) (T := F_Ru) (N := 21) (j := 12) in_Ru rfl (by decide) mw_525 d_Ru_rampOn_69))))) (os_n (os_n (os_l (so_iload_n d_Ru_rampOn_72 rfl)) (os_n (os_l (so_laload d_Ru_rampOn_73)) (os_l (so_callS (iv := mi_Ma_floorDiv) rfl mw_1398 mw_1399 mw_21 mw_1400 ⟨by decide +kernel, by decide +kernel, by decide +kernel⟩ (by decide) d_Ru_rampOn_74)))) (os_n (os_n (os_l (so_ladd d_Ru_rampOn_77)) (os_l (so_callV (iv := mi_Ru_setValue) rfl rfl rfl mw_1394 mw_1396 sl_75 mw_11 mw_1397 ⟨by decide +kernel, by decide +kernel, by decide +kernel⟩ (by decide) d_Ru_rampOn_78))) (os_n (os_l (so_iconst d_Ru_rampOn_81 (by decide))) (os_l (so_ireturn rfl d_Ru_rampOn_82))))))))
abbrev t_Ru_reckon_208 : List UInt8 := 173 :: []
abbrev t_Ru_reckon_207 : List UInt8 := 47 :: t_Ru_reckon_208
abbrev t_Ru_reckon_206 : List UInt8 := 3 :: t_Ru_reckon_207
abbrev t_Ru_reckon_203 : List UInt8 := 180 :: 0 :: 51 :: t_Ru_reckon_206
abbrev t_Ru_reckon_202 : List UInt8 := 42 :: t_Ru_reckon_203
abbrev t_Ru_reckon_199 : List UInt8 := 167 :: 255 :: 69 :: t_Ru_reckon_202
abbrev t_Ru_reckon_196 : List UInt8 := 132 :: 4 :: 1 :: t_Ru_reckon_199
abbrev t_Ru_reckon_195 : List UInt8 := 80 :: t_Ru_reckon_196
abbrev t_Ru_reckon_192 : List UInt8 := 184 :: 0 :: 208 :: t_Ru_reckon_195
abbrev t_Ru_reckon_191 : List UInt8 := 47 :: t_Ru_reckon_192
abbrev t_Ru_reckon_190 : List UInt8 := 29 :: t_Ru_reckon_191
abbrev t_Ru_reckon_187 : List UInt8 := 180 :: 0 :: 51 :: t_Ru_reckon_190
abbrev t_Ru_reckon_186 : List UInt8 := 42 :: t_Ru_reckon_187
abbrev t_Ru_reckon_185 : List UInt8 := 47 :: t_Ru_reckon_186
abbrev t_Ru_reckon_184 : List UInt8 := 100 :: t_Ru_reckon_185
abbrev t_Ru_reckon_183 : List UInt8 := 4 :: t_Ru_reckon_184
abbrev t_Ru_reckon_182 : List UInt8 := 29 :: t_Ru_reckon_183
abbrev t_Ru_reckon_179 : List UInt8 := 180 :: 0 :: 51 :: t_Ru_reckon_182
abbrev t_Ru_reckon_178 : List UInt8 := 42 :: t_Ru_reckon_179
abbrev t_Ru_reckon_176 : List UInt8 := 21 :: 5 :: t_Ru_reckon_178
abbrev t_Ru_reckon_175 : List UInt8 := 100 :: t_Ru_reckon_176
abbrev t_Ru_reckon_174 : List UInt8 := 4 :: t_Ru_reckon_175
abbrev t_Ru_reckon_173 : List UInt8 := 29 :: t_Ru_reckon_174
abbrev t_Ru_reckon_170 : List UInt8 := 180 :: 0 :: 51 :: t_Ru_reckon_173
abbrev t_Ru_reckon_169 : List UInt8 := 42 :: t_Ru_reckon_170
abbrev t_Ru_reckon_168 : List UInt8 := 173 :: t_Ru_reckon_169
abbrev t_Ru_reckon_167 : List UInt8 := 9 :: t_Ru_reckon_168
abbrev t_Ru_reckon_164 : List UInt8 := 182 :: 0 :: 141 :: t_Ru_reckon_167
abbrev t_Ru_reckon_162 : List UInt8 := 21 :: 4 :: t_Ru_reckon_164
abbrev t_Ru_reckon_161 : List UInt8 := 4 :: t_Ru_reckon_162
abbrev t_Ru_reckon_160 : List UInt8 := 42 :: t_Ru_reckon_161
abbrev t_Ru_reckon_157 : List UInt8 := 154 :: 0 :: 12 :: t_Ru_reckon_160
abbrev t_Ru_reckon_156 : List UInt8 := 148 :: t_Ru_reckon_157
abbrev t_Ru_reckon_155 : List UInt8 := 9 :: t_Ru_reckon_156
abbrev t_Ru_reckon_154 : List UInt8 := 47 :: t_Ru_reckon_155
abbrev t_Ru_reckon_153 : List UInt8 := 29 :: t_Ru_reckon_154
abbrev t_Ru_reckon_150 : List UInt8 := 180 :: 0 :: 51 :: t_Ru_reckon_153
abbrev t_Ru_reckon_149 : List UInt8 := 42 :: t_Ru_reckon_150
abbrev t_Ru_reckon_146 : List UInt8 := 160 :: 0 :: 23 :: t_Ru_reckon_149
abbrev t_Ru_reckon_144 : List UInt8 := 16 :: 47 :: t_Ru_reckon_146
abbrev t_Ru_reckon_142 : List UInt8 := 21 :: 5 :: t_Ru_reckon_144
abbrev t_Ru_reckon_139 : List UInt8 := 132 :: 3 :: 255 :: t_Ru_reckon_142
abbrev t_Ru_reckon_136 : List UInt8 := 164 :: 0 :: 60 :: t_Ru_reckon_139
abbrev t_Ru_reckon_135 : List UInt8 := 4 :: t_Ru_reckon_136
abbrev t_Ru_reckon_134 : List UInt8 := 29 :: t_Ru_reckon_135
abbrev t_Ru_reckon_131 : List UInt8 := 167 :: 0 :: 65 :: t_Ru_reckon_134
abbrev t_Ru_reckon_130 : List UInt8 := 80 :: t_Ru_reckon_131
abbrev t_Ru_reckon_129 : List UInt8 := 117 :: t_Ru_reckon_130
abbrev t_Ru_reckon_128 : List UInt8 := 47 :: t_Ru_reckon_129
abbrev t_Ru_reckon_127 : List UInt8 := 100 :: t_Ru_reckon_128
abbrev t_Ru_reckon_126 : List UInt8 := 4 :: t_Ru_reckon_127
abbrev t_Ru_reckon_125 : List UInt8 := 29 :: t_Ru_reckon_126
abbrev t_Ru_reckon_122 : List UInt8 := 180 :: 0 :: 51 :: t_Ru_reckon_125
abbrev t_Ru_reckon_121 : List UInt8 := 42 :: t_Ru_reckon_122
abbrev t_Ru_reckon_120 : List UInt8 := 100 :: t_Ru_reckon_121
abbrev t_Ru_reckon_119 : List UInt8 := 4 :: t_Ru_reckon_120
abbrev t_Ru_reckon_118 : List UInt8 := 29 :: t_Ru_reckon_119
abbrev t_Ru_reckon_115 : List UInt8 := 180 :: 0 :: 51 :: t_Ru_reckon_118
abbrev t_Ru_reckon_114 : List UInt8 := 42 :: t_Ru_reckon_115
abbrev t_Ru_reckon_111 : List UInt8 := 158 :: 0 :: 23 :: t_Ru_reckon_114
abbrev t_Ru_reckon_110 : List UInt8 := 29 :: t_Ru_reckon_111
abbrev t_Ru_reckon_107 : List UInt8 := 160 :: 0 :: 27 :: t_Ru_reckon_110
abbrev t_Ru_reckon_105 : List UInt8 := 16 :: 34 :: t_Ru_reckon_107
abbrev t_Ru_reckon_103 : List UInt8 := 21 :: 5 :: t_Ru_reckon_105
abbrev t_Ru_reckon_100 : List UInt8 := 167 :: 0 :: 96 :: t_Ru_reckon_103
abbrev t_Ru_reckon_97 : List UInt8 := 132 :: 3 :: 1 :: t_Ru_reckon_100
abbrev t_Ru_reckon_96 : List UInt8 := 80 :: t_Ru_reckon_97
abbrev t_Ru_reckon_95 : List UInt8 := 47 :: t_Ru_reckon_96
abbrev t_Ru_reckon_94 : List UInt8 := 46 :: t_Ru_reckon_95
abbrev t_Ru_reckon_92 : List UInt8 := 21 :: 4 :: t_Ru_reckon_94
abbrev t_Ru_reckon_89 : List UInt8 := 180 :: 0 :: 166 :: t_Ru_reckon_92
abbrev t_Ru_reckon_86 : List UInt8 := 180 :: 0 :: 12 :: t_Ru_reckon_89
abbrev t_Ru_reckon_85 : List UInt8 := 42 :: t_Ru_reckon_86
abbrev t_Ru_reckon_82 : List UInt8 := 180 :: 0 :: 193 :: t_Ru_reckon_85
abbrev t_Ru_reckon_79 : List UInt8 := 180 :: 0 :: 12 :: t_Ru_reckon_82
abbrev t_Ru_reckon_78 : List UInt8 := 42 :: t_Ru_reckon_79
abbrev t_Ru_reckon_75 : List UInt8 := 167 :: 0 :: 21 :: t_Ru_reckon_78
abbrev t_Ru_reckon_74 : List UInt8 := 47 :: t_Ru_reckon_75
abbrev t_Ru_reckon_72 : List UInt8 := 21 :: 4 :: t_Ru_reckon_74
abbrev t_Ru_reckon_69 : List UInt8 := 180 :: 0 :: 205 :: t_Ru_reckon_72
abbrev t_Ru_reckon_66 : List UInt8 := 180 :: 0 :: 12 :: t_Ru_reckon_69
abbrev t_Ru_reckon_65 : List UInt8 := 42 :: t_Ru_reckon_66
abbrev t_Ru_reckon_62 : List UInt8 := 160 :: 0 :: 16 :: t_Ru_reckon_65
abbrev t_Ru_reckon_60 : List UInt8 := 16 :: 31 :: t_Ru_reckon_62
abbrev t_Ru_reckon_58 : List UInt8 := 21 :: 5 :: t_Ru_reckon_60
abbrev t_Ru_reckon_57 : List UInt8 := 29 :: t_Ru_reckon_58
abbrev t_Ru_reckon_54 : List UInt8 := 180 :: 0 :: 51 :: t_Ru_reckon_57
abbrev t_Ru_reckon_53 : List UInt8 := 42 :: t_Ru_reckon_54
abbrev t_Ru_reckon_50 : List UInt8 := 160 :: 0 :: 53 :: t_Ru_reckon_53
abbrev t_Ru_reckon_48 : List UInt8 := 16 :: 30 :: t_Ru_reckon_50
abbrev t_Ru_reckon_46 : List UInt8 := 21 :: 5 :: t_Ru_reckon_48
abbrev t_Ru_reckon_43 : List UInt8 := 159 :: 0 :: 10 :: t_Ru_reckon_46
abbrev t_Ru_reckon_41 : List UInt8 := 16 :: 31 :: t_Ru_reckon_43
abbrev t_Ru_reckon_39 : List UInt8 := 21 :: 5 :: t_Ru_reckon_41
abbrev t_Ru_reckon_37 : List UInt8 := 54 :: 5 :: t_Ru_reckon_39
abbrev t_Ru_reckon_36 : List UInt8 := 46 :: t_Ru_reckon_37
abbrev t_Ru_reckon_34 : List UInt8 := 21 :: 4 :: t_Ru_reckon_36
abbrev t_Ru_reckon_31 : List UInt8 := 180 :: 0 :: 122 :: t_Ru_reckon_34
abbrev t_Ru_reckon_28 : List UInt8 := 180 :: 0 :: 12 :: t_Ru_reckon_31
abbrev t_Ru_reckon_27 : List UInt8 := 42 :: t_Ru_reckon_28
abbrev t_Ru_reckon_24 : List UInt8 := 162 :: 0 :: 178 :: t_Ru_reckon_27
abbrev t_Ru_reckon_23 : List UInt8 := 190 :: t_Ru_reckon_24
abbrev t_Ru_reckon_20 : List UInt8 := 180 :: 0 :: 51 :: t_Ru_reckon_23
abbrev t_Ru_reckon_19 : List UInt8 := 42 :: t_Ru_reckon_20
abbrev t_Ru_reckon_18 : List UInt8 := 29 :: t_Ru_reckon_19
abbrev t_Ru_reckon_15 : List UInt8 := 162 :: 0 :: 187 :: t_Ru_reckon_18
abbrev t_Ru_reckon_14 : List UInt8 := 28 :: t_Ru_reckon_15
abbrev t_Ru_reckon_12 : List UInt8 := 21 :: 4 :: t_Ru_reckon_14
abbrev t_Ru_reckon_10 : List UInt8 := 54 :: 4 :: t_Ru_reckon_12
abbrev t_Ru_reckon_9 : List UInt8 := 27 :: t_Ru_reckon_10
abbrev t_Ru_reckon_8 : List UInt8 := 80 :: t_Ru_reckon_9
abbrev t_Ru_reckon_7 : List UInt8 := 9 :: t_Ru_reckon_8
abbrev t_Ru_reckon_6 : List UInt8 := 3 :: t_Ru_reckon_7
abbrev t_Ru_reckon_3 : List UInt8 := 180 :: 0 :: 51 :: t_Ru_reckon_6
abbrev t_Ru_reckon_2 : List UInt8 := 42 :: t_Ru_reckon_3
abbrev t_Ru_reckon_1 : List UInt8 := 62 :: t_Ru_reckon_2
abbrev t_Ru_reckon_0 : List UInt8 := 3 :: t_Ru_reckon_1
theorem a_Ru_reckon_0 : dk_at b_Ru_reckon 0 t_Ru_reckon_0 := dk_start (by decide +kernel)
theorem a_Ru_reckon_1 : dk_at b_Ru_reckon 1 t_Ru_reckon_1 := dk_go 1 a_Ru_reckon_0 rfl
theorem a_Ru_reckon_2 : dk_at b_Ru_reckon 2 t_Ru_reckon_2 := dk_go 1 a_Ru_reckon_1 rfl
theorem a_Ru_reckon_3 : dk_at b_Ru_reckon 3 t_Ru_reckon_3 := dk_go 1 a_Ru_reckon_2 rfl
theorem a_Ru_reckon_6 : dk_at b_Ru_reckon 6 t_Ru_reckon_6 := dk_go 3 a_Ru_reckon_3 rfl
theorem a_Ru_reckon_7 : dk_at b_Ru_reckon 7 t_Ru_reckon_7 := dk_go 1 a_Ru_reckon_6 rfl
theorem a_Ru_reckon_8 : dk_at b_Ru_reckon 8 t_Ru_reckon_8 := dk_go 1 a_Ru_reckon_7 rfl
theorem a_Ru_reckon_9 : dk_at b_Ru_reckon 9 t_Ru_reckon_9 := dk_go 1 a_Ru_reckon_8 rfl
theorem a_Ru_reckon_10 : dk_at b_Ru_reckon 10 t_Ru_reckon_10 := dk_go 1 a_Ru_reckon_9 rfl
theorem a_Ru_reckon_12 : dk_at b_Ru_reckon 12 t_Ru_reckon_12 := dk_go 2 a_Ru_reckon_10 rfl
theorem a_Ru_reckon_14 : dk_at b_Ru_reckon 14 t_Ru_reckon_14 := dk_go 2 a_Ru_reckon_12 rfl
theorem a_Ru_reckon_15 : dk_at b_Ru_reckon 15 t_Ru_reckon_15 := dk_go 1 a_Ru_reckon_14 rfl
theorem a_Ru_reckon_18 : dk_at b_Ru_reckon 18 t_Ru_reckon_18 := dk_go 3 a_Ru_reckon_15 rfl
theorem a_Ru_reckon_19 : dk_at b_Ru_reckon 19 t_Ru_reckon_19 := dk_go 1 a_Ru_reckon_18 rfl
theorem a_Ru_reckon_20 : dk_at b_Ru_reckon 20 t_Ru_reckon_20 := dk_go 1 a_Ru_reckon_19 rfl
theorem a_Ru_reckon_23 : dk_at b_Ru_reckon 23 t_Ru_reckon_23 := dk_go 3 a_Ru_reckon_20 rfl
theorem a_Ru_reckon_24 : dk_at b_Ru_reckon 24 t_Ru_reckon_24 := dk_go 1 a_Ru_reckon_23 rfl
theorem a_Ru_reckon_27 : dk_at b_Ru_reckon 27 t_Ru_reckon_27 := dk_go 3 a_Ru_reckon_24 rfl
theorem a_Ru_reckon_28 : dk_at b_Ru_reckon 28 t_Ru_reckon_28 := dk_go 1 a_Ru_reckon_27 rfl
theorem a_Ru_reckon_31 : dk_at b_Ru_reckon 31 t_Ru_reckon_31 := dk_go 3 a_Ru_reckon_28 rfl
theorem a_Ru_reckon_34 : dk_at b_Ru_reckon 34 t_Ru_reckon_34 := dk_go 3 a_Ru_reckon_31 rfl
theorem a_Ru_reckon_36 : dk_at b_Ru_reckon 36 t_Ru_reckon_36 := dk_go 2 a_Ru_reckon_34 rfl
theorem a_Ru_reckon_37 : dk_at b_Ru_reckon 37 t_Ru_reckon_37 := dk_go 1 a_Ru_reckon_36 rfl
theorem a_Ru_reckon_39 : dk_at b_Ru_reckon 39 t_Ru_reckon_39 := dk_go 2 a_Ru_reckon_37 rfl
theorem a_Ru_reckon_41 : dk_at b_Ru_reckon 41 t_Ru_reckon_41 := dk_go 2 a_Ru_reckon_39 rfl
theorem a_Ru_reckon_43 : dk_at b_Ru_reckon 43 t_Ru_reckon_43 := dk_go 2 a_Ru_reckon_41 rfl
theorem a_Ru_reckon_46 : dk_at b_Ru_reckon 46 t_Ru_reckon_46 := dk_go 3 a_Ru_reckon_43 rfl
theorem a_Ru_reckon_48 : dk_at b_Ru_reckon 48 t_Ru_reckon_48 := dk_go 2 a_Ru_reckon_46 rfl
theorem a_Ru_reckon_50 : dk_at b_Ru_reckon 50 t_Ru_reckon_50 := dk_go 2 a_Ru_reckon_48 rfl
theorem a_Ru_reckon_53 : dk_at b_Ru_reckon 53 t_Ru_reckon_53 := dk_go 3 a_Ru_reckon_50 rfl
theorem a_Ru_reckon_54 : dk_at b_Ru_reckon 54 t_Ru_reckon_54 := dk_go 1 a_Ru_reckon_53 rfl
theorem a_Ru_reckon_57 : dk_at b_Ru_reckon 57 t_Ru_reckon_57 := dk_go 3 a_Ru_reckon_54 rfl
theorem a_Ru_reckon_58 : dk_at b_Ru_reckon 58 t_Ru_reckon_58 := dk_go 1 a_Ru_reckon_57 rfl
theorem a_Ru_reckon_60 : dk_at b_Ru_reckon 60 t_Ru_reckon_60 := dk_go 2 a_Ru_reckon_58 rfl
theorem a_Ru_reckon_62 : dk_at b_Ru_reckon 62 t_Ru_reckon_62 := dk_go 2 a_Ru_reckon_60 rfl
theorem a_Ru_reckon_65 : dk_at b_Ru_reckon 65 t_Ru_reckon_65 := dk_go 3 a_Ru_reckon_62 rfl
theorem a_Ru_reckon_66 : dk_at b_Ru_reckon 66 t_Ru_reckon_66 := dk_go 1 a_Ru_reckon_65 rfl
theorem a_Ru_reckon_69 : dk_at b_Ru_reckon 69 t_Ru_reckon_69 := dk_go 3 a_Ru_reckon_66 rfl
theorem a_Ru_reckon_72 : dk_at b_Ru_reckon 72 t_Ru_reckon_72 := dk_go 3 a_Ru_reckon_69 rfl
theorem a_Ru_reckon_74 : dk_at b_Ru_reckon 74 t_Ru_reckon_74 := dk_go 2 a_Ru_reckon_72 rfl
theorem a_Ru_reckon_75 : dk_at b_Ru_reckon 75 t_Ru_reckon_75 := dk_go 1 a_Ru_reckon_74 rfl
theorem a_Ru_reckon_78 : dk_at b_Ru_reckon 78 t_Ru_reckon_78 := dk_go 3 a_Ru_reckon_75 rfl
theorem a_Ru_reckon_79 : dk_at b_Ru_reckon 79 t_Ru_reckon_79 := dk_go 1 a_Ru_reckon_78 rfl
theorem a_Ru_reckon_82 : dk_at b_Ru_reckon 82 t_Ru_reckon_82 := dk_go 3 a_Ru_reckon_79 rfl
theorem a_Ru_reckon_85 : dk_at b_Ru_reckon 85 t_Ru_reckon_85 := dk_go 3 a_Ru_reckon_82 rfl
theorem a_Ru_reckon_86 : dk_at b_Ru_reckon 86 t_Ru_reckon_86 := dk_go 1 a_Ru_reckon_85 rfl
theorem a_Ru_reckon_89 : dk_at b_Ru_reckon 89 t_Ru_reckon_89 := dk_go 3 a_Ru_reckon_86 rfl
theorem a_Ru_reckon_92 : dk_at b_Ru_reckon 92 t_Ru_reckon_92 := dk_go 3 a_Ru_reckon_89 rfl
theorem a_Ru_reckon_94 : dk_at b_Ru_reckon 94 t_Ru_reckon_94 := dk_go 2 a_Ru_reckon_92 rfl
theorem a_Ru_reckon_95 : dk_at b_Ru_reckon 95 t_Ru_reckon_95 := dk_go 1 a_Ru_reckon_94 rfl
theorem a_Ru_reckon_96 : dk_at b_Ru_reckon 96 t_Ru_reckon_96 := dk_go 1 a_Ru_reckon_95 rfl
theorem a_Ru_reckon_97 : dk_at b_Ru_reckon 97 t_Ru_reckon_97 := dk_go 1 a_Ru_reckon_96 rfl
theorem a_Ru_reckon_100 : dk_at b_Ru_reckon 100 t_Ru_reckon_100 := dk_go 3 a_Ru_reckon_97 rfl
theorem a_Ru_reckon_103 : dk_at b_Ru_reckon 103 t_Ru_reckon_103 := dk_go 3 a_Ru_reckon_100 rfl
theorem a_Ru_reckon_105 : dk_at b_Ru_reckon 105 t_Ru_reckon_105 := dk_go 2 a_Ru_reckon_103 rfl
theorem a_Ru_reckon_107 : dk_at b_Ru_reckon 107 t_Ru_reckon_107 := dk_go 2 a_Ru_reckon_105 rfl
theorem a_Ru_reckon_110 : dk_at b_Ru_reckon 110 t_Ru_reckon_110 := dk_go 3 a_Ru_reckon_107 rfl
theorem a_Ru_reckon_111 : dk_at b_Ru_reckon 111 t_Ru_reckon_111 := dk_go 1 a_Ru_reckon_110 rfl
theorem a_Ru_reckon_114 : dk_at b_Ru_reckon 114 t_Ru_reckon_114 := dk_go 3 a_Ru_reckon_111 rfl
theorem a_Ru_reckon_115 : dk_at b_Ru_reckon 115 t_Ru_reckon_115 := dk_go 1 a_Ru_reckon_114 rfl
theorem a_Ru_reckon_118 : dk_at b_Ru_reckon 118 t_Ru_reckon_118 := dk_go 3 a_Ru_reckon_115 rfl
theorem a_Ru_reckon_119 : dk_at b_Ru_reckon 119 t_Ru_reckon_119 := dk_go 1 a_Ru_reckon_118 rfl
theorem a_Ru_reckon_120 : dk_at b_Ru_reckon 120 t_Ru_reckon_120 := dk_go 1 a_Ru_reckon_119 rfl
theorem a_Ru_reckon_121 : dk_at b_Ru_reckon 121 t_Ru_reckon_121 := dk_go 1 a_Ru_reckon_120 rfl
theorem a_Ru_reckon_122 : dk_at b_Ru_reckon 122 t_Ru_reckon_122 := dk_go 1 a_Ru_reckon_121 rfl
theorem a_Ru_reckon_125 : dk_at b_Ru_reckon 125 t_Ru_reckon_125 := dk_go 3 a_Ru_reckon_122 rfl
theorem a_Ru_reckon_126 : dk_at b_Ru_reckon 126 t_Ru_reckon_126 := dk_go 1 a_Ru_reckon_125 rfl
theorem a_Ru_reckon_127 : dk_at b_Ru_reckon 127 t_Ru_reckon_127 := dk_go 1 a_Ru_reckon_126 rfl
theorem a_Ru_reckon_128 : dk_at b_Ru_reckon 128 t_Ru_reckon_128 := dk_go 1 a_Ru_reckon_127 rfl
theorem a_Ru_reckon_129 : dk_at b_Ru_reckon 129 t_Ru_reckon_129 := dk_go 1 a_Ru_reckon_128 rfl
theorem a_Ru_reckon_130 : dk_at b_Ru_reckon 130 t_Ru_reckon_130 := dk_go 1 a_Ru_reckon_129 rfl
theorem a_Ru_reckon_131 : dk_at b_Ru_reckon 131 t_Ru_reckon_131 := dk_go 1 a_Ru_reckon_130 rfl
theorem a_Ru_reckon_134 : dk_at b_Ru_reckon 134 t_Ru_reckon_134 := dk_go 3 a_Ru_reckon_131 rfl
theorem a_Ru_reckon_135 : dk_at b_Ru_reckon 135 t_Ru_reckon_135 := dk_go 1 a_Ru_reckon_134 rfl
theorem a_Ru_reckon_136 : dk_at b_Ru_reckon 136 t_Ru_reckon_136 := dk_go 1 a_Ru_reckon_135 rfl
theorem a_Ru_reckon_139 : dk_at b_Ru_reckon 139 t_Ru_reckon_139 := dk_go 3 a_Ru_reckon_136 rfl
theorem a_Ru_reckon_142 : dk_at b_Ru_reckon 142 t_Ru_reckon_142 := dk_go 3 a_Ru_reckon_139 rfl
theorem a_Ru_reckon_144 : dk_at b_Ru_reckon 144 t_Ru_reckon_144 := dk_go 2 a_Ru_reckon_142 rfl
theorem a_Ru_reckon_146 : dk_at b_Ru_reckon 146 t_Ru_reckon_146 := dk_go 2 a_Ru_reckon_144 rfl
theorem a_Ru_reckon_149 : dk_at b_Ru_reckon 149 t_Ru_reckon_149 := dk_go 3 a_Ru_reckon_146 rfl
theorem a_Ru_reckon_150 : dk_at b_Ru_reckon 150 t_Ru_reckon_150 := dk_go 1 a_Ru_reckon_149 rfl
theorem a_Ru_reckon_153 : dk_at b_Ru_reckon 153 t_Ru_reckon_153 := dk_go 3 a_Ru_reckon_150 rfl
theorem a_Ru_reckon_154 : dk_at b_Ru_reckon 154 t_Ru_reckon_154 := dk_go 1 a_Ru_reckon_153 rfl
theorem a_Ru_reckon_155 : dk_at b_Ru_reckon 155 t_Ru_reckon_155 := dk_go 1 a_Ru_reckon_154 rfl
theorem a_Ru_reckon_156 : dk_at b_Ru_reckon 156 t_Ru_reckon_156 := dk_go 1 a_Ru_reckon_155 rfl
theorem a_Ru_reckon_157 : dk_at b_Ru_reckon 157 t_Ru_reckon_157 := dk_go 1 a_Ru_reckon_156 rfl
theorem a_Ru_reckon_160 : dk_at b_Ru_reckon 160 t_Ru_reckon_160 := dk_go 3 a_Ru_reckon_157 rfl
theorem a_Ru_reckon_161 : dk_at b_Ru_reckon 161 t_Ru_reckon_161 := dk_go 1 a_Ru_reckon_160 rfl
theorem a_Ru_reckon_162 : dk_at b_Ru_reckon 162 t_Ru_reckon_162 := dk_go 1 a_Ru_reckon_161 rfl
theorem a_Ru_reckon_164 : dk_at b_Ru_reckon 164 t_Ru_reckon_164 := dk_go 2 a_Ru_reckon_162 rfl
theorem a_Ru_reckon_167 : dk_at b_Ru_reckon 167 t_Ru_reckon_167 := dk_go 3 a_Ru_reckon_164 rfl
theorem a_Ru_reckon_168 : dk_at b_Ru_reckon 168 t_Ru_reckon_168 := dk_go 1 a_Ru_reckon_167 rfl
theorem a_Ru_reckon_169 : dk_at b_Ru_reckon 169 t_Ru_reckon_169 := dk_go 1 a_Ru_reckon_168 rfl
theorem a_Ru_reckon_170 : dk_at b_Ru_reckon 170 t_Ru_reckon_170 := dk_go 1 a_Ru_reckon_169 rfl
theorem a_Ru_reckon_173 : dk_at b_Ru_reckon 173 t_Ru_reckon_173 := dk_go 3 a_Ru_reckon_170 rfl
theorem a_Ru_reckon_174 : dk_at b_Ru_reckon 174 t_Ru_reckon_174 := dk_go 1 a_Ru_reckon_173 rfl
theorem a_Ru_reckon_175 : dk_at b_Ru_reckon 175 t_Ru_reckon_175 := dk_go 1 a_Ru_reckon_174 rfl
theorem a_Ru_reckon_176 : dk_at b_Ru_reckon 176 t_Ru_reckon_176 := dk_go 1 a_Ru_reckon_175 rfl
theorem a_Ru_reckon_178 : dk_at b_Ru_reckon 178 t_Ru_reckon_178 := dk_go 2 a_Ru_reckon_176 rfl
theorem a_Ru_reckon_179 : dk_at b_Ru_reckon 179 t_Ru_reckon_179 := dk_go 1 a_Ru_reckon_178 rfl
theorem a_Ru_reckon_182 : dk_at b_Ru_reckon 182 t_Ru_reckon_182 := dk_go 3 a_Ru_reckon_179 rfl
theorem a_Ru_reckon_183 : dk_at b_Ru_reckon 183 t_Ru_reckon_183 := dk_go 1 a_Ru_reckon_182 rfl
theorem a_Ru_reckon_184 : dk_at b_Ru_reckon 184 t_Ru_reckon_184 := dk_go 1 a_Ru_reckon_183 rfl
theorem a_Ru_reckon_185 : dk_at b_Ru_reckon 185 t_Ru_reckon_185 := dk_go 1 a_Ru_reckon_184 rfl
theorem a_Ru_reckon_186 : dk_at b_Ru_reckon 186 t_Ru_reckon_186 := dk_go 1 a_Ru_reckon_185 rfl
theorem a_Ru_reckon_187 : dk_at b_Ru_reckon 187 t_Ru_reckon_187 := dk_go 1 a_Ru_reckon_186 rfl
theorem a_Ru_reckon_190 : dk_at b_Ru_reckon 190 t_Ru_reckon_190 := dk_go 3 a_Ru_reckon_187 rfl
theorem a_Ru_reckon_191 : dk_at b_Ru_reckon 191 t_Ru_reckon_191 := dk_go 1 a_Ru_reckon_190 rfl
theorem a_Ru_reckon_192 : dk_at b_Ru_reckon 192 t_Ru_reckon_192 := dk_go 1 a_Ru_reckon_191 rfl
theorem a_Ru_reckon_195 : dk_at b_Ru_reckon 195 t_Ru_reckon_195 := dk_go 3 a_Ru_reckon_192 rfl
theorem a_Ru_reckon_196 : dk_at b_Ru_reckon 196 t_Ru_reckon_196 := dk_go 1 a_Ru_reckon_195 rfl
theorem a_Ru_reckon_199 : dk_at b_Ru_reckon 199 t_Ru_reckon_199 := dk_go 3 a_Ru_reckon_196 rfl
theorem a_Ru_reckon_202 : dk_at b_Ru_reckon 202 t_Ru_reckon_202 := dk_go 3 a_Ru_reckon_199 rfl
theorem a_Ru_reckon_203 : dk_at b_Ru_reckon 203 t_Ru_reckon_203 := dk_go 1 a_Ru_reckon_202 rfl
theorem a_Ru_reckon_206 : dk_at b_Ru_reckon 206 t_Ru_reckon_206 := dk_go 3 a_Ru_reckon_203 rfl
theorem a_Ru_reckon_207 : dk_at b_Ru_reckon 207 t_Ru_reckon_207 := dk_go 1 a_Ru_reckon_206 rfl
theorem a_Ru_reckon_208 : dk_at b_Ru_reckon 208 t_Ru_reckon_208 := dk_go 1 a_Ru_reckon_207 rfl
theorem d_Ru_reckon_0 : decode b_Ru_reckon 0 = .ok (.iconst 0, 1) := dk_0 a_Ru_reckon_0 (dko_3 _)
theorem d_Ru_reckon_1 : decode b_Ru_reckon 1 = .ok (.istore_n 3, 1) := dk_0 a_Ru_reckon_1 (dko_62 _)
theorem d_Ru_reckon_2 : decode b_Ru_reckon 2 = .ok (.aload_n 0, 1) := dk_0 a_Ru_reckon_2 (dko_42 _)
theorem d_Ru_reckon_3 : decode b_Ru_reckon 3 = .ok (.getfield 51, 3) := dk_U2 a_Ru_reckon_3 (dko_180 _) rfl
theorem d_Ru_reckon_6 : decode b_Ru_reckon 6 = .ok (.iconst 0, 1) := dk_0 a_Ru_reckon_6 (dko_3 _)
theorem d_Ru_reckon_7 : decode b_Ru_reckon 7 = .ok (.lconst 0, 1) := dk_0 a_Ru_reckon_7 (dko_9 _)
theorem d_Ru_reckon_8 : decode b_Ru_reckon 8 = .ok (.lastore, 1) := dk_0 a_Ru_reckon_8 (dko_80 _)
theorem d_Ru_reckon_9 : decode b_Ru_reckon 9 = .ok (.iload_n 1, 1) := dk_0 a_Ru_reckon_9 (dko_27 _)
theorem d_Ru_reckon_10 : decode b_Ru_reckon 10 = .ok (.istore 4, 2) := dk_U1 a_Ru_reckon_10 (dko_54 _) rfl
theorem d_Ru_reckon_12 : decode b_Ru_reckon 12 = .ok (.iload 4, 2) := dk_U1 a_Ru_reckon_12 (dko_21 _) rfl
theorem d_Ru_reckon_14 : decode b_Ru_reckon 14 = .ok (.iload_n 2, 1) := dk_0 a_Ru_reckon_14 (dko_28 _)
theorem d_Ru_reckon_15 : decode b_Ru_reckon 15 = .ok (.if_icmp .ge 187, 3) := dk_S2 a_Ru_reckon_15 (dko_162 _) (by decide +kernel)
theorem d_Ru_reckon_18 : decode b_Ru_reckon 18 = .ok (.iload_n 3, 1) := dk_0 a_Ru_reckon_18 (dko_29 _)
theorem d_Ru_reckon_19 : decode b_Ru_reckon 19 = .ok (.aload_n 0, 1) := dk_0 a_Ru_reckon_19 (dko_42 _)
theorem d_Ru_reckon_20 : decode b_Ru_reckon 20 = .ok (.getfield 51, 3) := dk_U2 a_Ru_reckon_20 (dko_180 _) rfl
theorem d_Ru_reckon_23 : decode b_Ru_reckon 23 = .ok (.arraylength, 1) := dk_0 a_Ru_reckon_23 (dko_190 _)
theorem d_Ru_reckon_24 : decode b_Ru_reckon 24 = .ok (.if_icmp .ge 178, 3) := dk_S2 a_Ru_reckon_24 (dko_162 _) (by decide +kernel)
theorem d_Ru_reckon_27 : decode b_Ru_reckon 27 = .ok (.aload_n 0, 1) := dk_0 a_Ru_reckon_27 (dko_42 _)
theorem d_Ru_reckon_28 : decode b_Ru_reckon 28 = .ok (.getfield 12, 3) := dk_U2 a_Ru_reckon_28 (dko_180 _) rfl
theorem d_Ru_reckon_31 : decode b_Ru_reckon 31 = .ok (.getfield 122, 3) := dk_U2 a_Ru_reckon_31 (dko_180 _) rfl
theorem d_Ru_reckon_34 : decode b_Ru_reckon 34 = .ok (.iload 4, 2) := dk_U1 a_Ru_reckon_34 (dko_21 _) rfl
theorem d_Ru_reckon_36 : decode b_Ru_reckon 36 = .ok (.iaload, 1) := dk_0 a_Ru_reckon_36 (dko_46 _)
theorem d_Ru_reckon_37 : decode b_Ru_reckon 37 = .ok (.istore 5, 2) := dk_U1 a_Ru_reckon_37 (dko_54 _) rfl
theorem d_Ru_reckon_39 : decode b_Ru_reckon 39 = .ok (.iload 5, 2) := dk_U1 a_Ru_reckon_39 (dko_21 _) rfl
theorem d_Ru_reckon_41 : decode b_Ru_reckon 41 = .ok (.bipush 31, 2) := dk_S1 a_Ru_reckon_41 (dko_16 _) (by decide +kernel)
theorem d_Ru_reckon_43 : decode b_Ru_reckon 43 = .ok (.if_icmp .eq 10, 3) := dk_S2 a_Ru_reckon_43 (dko_159 _) (by decide +kernel)
theorem d_Ru_reckon_46 : decode b_Ru_reckon 46 = .ok (.iload 5, 2) := dk_U1 a_Ru_reckon_46 (dko_21 _) rfl
theorem d_Ru_reckon_48 : decode b_Ru_reckon 48 = .ok (.bipush 30, 2) := dk_S1 a_Ru_reckon_48 (dko_16 _) (by decide +kernel)
theorem d_Ru_reckon_50 : decode b_Ru_reckon 50 = .ok (.if_icmp .ne 53, 3) := dk_S2 a_Ru_reckon_50 (dko_160 _) (by decide +kernel)
theorem d_Ru_reckon_53 : decode b_Ru_reckon 53 = .ok (.aload_n 0, 1) := dk_0 a_Ru_reckon_53 (dko_42 _)
theorem d_Ru_reckon_54 : decode b_Ru_reckon 54 = .ok (.getfield 51, 3) := dk_U2 a_Ru_reckon_54 (dko_180 _) rfl
theorem d_Ru_reckon_57 : decode b_Ru_reckon 57 = .ok (.iload_n 3, 1) := dk_0 a_Ru_reckon_57 (dko_29 _)
theorem d_Ru_reckon_58 : decode b_Ru_reckon 58 = .ok (.iload 5, 2) := dk_U1 a_Ru_reckon_58 (dko_21 _) rfl
theorem d_Ru_reckon_60 : decode b_Ru_reckon 60 = .ok (.bipush 31, 2) := dk_S1 a_Ru_reckon_60 (dko_16 _) (by decide +kernel)
theorem d_Ru_reckon_62 : decode b_Ru_reckon 62 = .ok (.if_icmp .ne 16, 3) := dk_S2 a_Ru_reckon_62 (dko_160 _) (by decide +kernel)
theorem d_Ru_reckon_65 : decode b_Ru_reckon 65 = .ok (.aload_n 0, 1) := dk_0 a_Ru_reckon_65 (dko_42 _)
theorem d_Ru_reckon_66 : decode b_Ru_reckon 66 = .ok (.getfield 12, 3) := dk_U2 a_Ru_reckon_66 (dko_180 _) rfl
theorem d_Ru_reckon_69 : decode b_Ru_reckon 69 = .ok (.getfield 205, 3) := dk_U2 a_Ru_reckon_69 (dko_180 _) rfl
theorem d_Ru_reckon_72 : decode b_Ru_reckon 72 = .ok (.iload 4, 2) := dk_U1 a_Ru_reckon_72 (dko_21 _) rfl
theorem d_Ru_reckon_74 : decode b_Ru_reckon 74 = .ok (.laload, 1) := dk_0 a_Ru_reckon_74 (dko_47 _)
theorem d_Ru_reckon_75 : decode b_Ru_reckon 75 = .ok (.goto 21, 3) := dk_S2 a_Ru_reckon_75 (dko_167 _) (by decide +kernel)
theorem d_Ru_reckon_78 : decode b_Ru_reckon 78 = .ok (.aload_n 0, 1) := dk_0 a_Ru_reckon_78 (dko_42 _)
theorem d_Ru_reckon_79 : decode b_Ru_reckon 79 = .ok (.getfield 12, 3) := dk_U2 a_Ru_reckon_79 (dko_180 _) rfl
theorem d_Ru_reckon_82 : decode b_Ru_reckon 82 = .ok (.getfield 193, 3) := dk_U2 a_Ru_reckon_82 (dko_180 _) rfl
theorem d_Ru_reckon_85 : decode b_Ru_reckon 85 = .ok (.aload_n 0, 1) := dk_0 a_Ru_reckon_85 (dko_42 _)
theorem d_Ru_reckon_86 : decode b_Ru_reckon 86 = .ok (.getfield 12, 3) := dk_U2 a_Ru_reckon_86 (dko_180 _) rfl
theorem d_Ru_reckon_89 : decode b_Ru_reckon 89 = .ok (.getfield 166, 3) := dk_U2 a_Ru_reckon_89 (dko_180 _) rfl
theorem d_Ru_reckon_92 : decode b_Ru_reckon 92 = .ok (.iload 4, 2) := dk_U1 a_Ru_reckon_92 (dko_21 _) rfl
theorem d_Ru_reckon_94 : decode b_Ru_reckon 94 = .ok (.iaload, 1) := dk_0 a_Ru_reckon_94 (dko_46 _)
theorem d_Ru_reckon_95 : decode b_Ru_reckon 95 = .ok (.laload, 1) := dk_0 a_Ru_reckon_95 (dko_47 _)
theorem d_Ru_reckon_96 : decode b_Ru_reckon 96 = .ok (.lastore, 1) := dk_0 a_Ru_reckon_96 (dko_80 _)
theorem d_Ru_reckon_97 : decode b_Ru_reckon 97 = .ok (.iinc 3 1, 3) := dk_US a_Ru_reckon_97 (dko_132 _) (by decide +kernel)
theorem d_Ru_reckon_100 : decode b_Ru_reckon 100 = .ok (.goto 96, 3) := dk_S2 a_Ru_reckon_100 (dko_167 _) (by decide +kernel)
theorem d_Ru_reckon_103 : decode b_Ru_reckon 103 = .ok (.iload 5, 2) := dk_U1 a_Ru_reckon_103 (dko_21 _) rfl
theorem d_Ru_reckon_105 : decode b_Ru_reckon 105 = .ok (.bipush 34, 2) := dk_S1 a_Ru_reckon_105 (dko_16 _) (by decide +kernel)
theorem d_Ru_reckon_107 : decode b_Ru_reckon 107 = .ok (.if_icmp .ne 27, 3) := dk_S2 a_Ru_reckon_107 (dko_160 _) (by decide +kernel)
theorem d_Ru_reckon_110 : decode b_Ru_reckon 110 = .ok (.iload_n 3, 1) := dk_0 a_Ru_reckon_110 (dko_29 _)
theorem d_Ru_reckon_111 : decode b_Ru_reckon 111 = .ok (.ifCond .le 23, 3) := dk_S2 a_Ru_reckon_111 (dko_158 _) (by decide +kernel)
theorem d_Ru_reckon_114 : decode b_Ru_reckon 114 = .ok (.aload_n 0, 1) := dk_0 a_Ru_reckon_114 (dko_42 _)
theorem d_Ru_reckon_115 : decode b_Ru_reckon 115 = .ok (.getfield 51, 3) := dk_U2 a_Ru_reckon_115 (dko_180 _) rfl
theorem d_Ru_reckon_118 : decode b_Ru_reckon 118 = .ok (.iload_n 3, 1) := dk_0 a_Ru_reckon_118 (dko_29 _)
theorem d_Ru_reckon_119 : decode b_Ru_reckon 119 = .ok (.iconst 1, 1) := dk_0 a_Ru_reckon_119 (dko_4 _)
theorem d_Ru_reckon_120 : decode b_Ru_reckon 120 = .ok (.isub, 1) := dk_0 a_Ru_reckon_120 (dko_100 _)
theorem d_Ru_reckon_121 : decode b_Ru_reckon 121 = .ok (.aload_n 0, 1) := dk_0 a_Ru_reckon_121 (dko_42 _)
theorem d_Ru_reckon_122 : decode b_Ru_reckon 122 = .ok (.getfield 51, 3) := dk_U2 a_Ru_reckon_122 (dko_180 _) rfl
theorem d_Ru_reckon_125 : decode b_Ru_reckon 125 = .ok (.iload_n 3, 1) := dk_0 a_Ru_reckon_125 (dko_29 _)
theorem d_Ru_reckon_126 : decode b_Ru_reckon 126 = .ok (.iconst 1, 1) := dk_0 a_Ru_reckon_126 (dko_4 _)
theorem d_Ru_reckon_127 : decode b_Ru_reckon 127 = .ok (.isub, 1) := dk_0 a_Ru_reckon_127 (dko_100 _)
theorem d_Ru_reckon_128 : decode b_Ru_reckon 128 = .ok (.laload, 1) := dk_0 a_Ru_reckon_128 (dko_47 _)
theorem d_Ru_reckon_129 : decode b_Ru_reckon 129 = .ok (.lneg, 1) := dk_0 a_Ru_reckon_129 (dko_117 _)
theorem d_Ru_reckon_130 : decode b_Ru_reckon 130 = .ok (.lastore, 1) := dk_0 a_Ru_reckon_130 (dko_80 _)
theorem d_Ru_reckon_131 : decode b_Ru_reckon 131 = .ok (.goto 65, 3) := dk_S2 a_Ru_reckon_131 (dko_167 _) (by decide +kernel)
theorem d_Ru_reckon_134 : decode b_Ru_reckon 134 = .ok (.iload_n 3, 1) := dk_0 a_Ru_reckon_134 (dko_29 _)
theorem d_Ru_reckon_135 : decode b_Ru_reckon 135 = .ok (.iconst 1, 1) := dk_0 a_Ru_reckon_135 (dko_4 _)
theorem d_Ru_reckon_136 : decode b_Ru_reckon 136 = .ok (.if_icmp .le 60, 3) := dk_S2 a_Ru_reckon_136 (dko_164 _) (by decide +kernel)
theorem d_Ru_reckon_139 : decode b_Ru_reckon 139 = .ok (.iinc 3 (-1), 3) := dk_US a_Ru_reckon_139 (dko_132 _) (by decide +kernel)
theorem d_Ru_reckon_142 : decode b_Ru_reckon 142 = .ok (.iload 5, 2) := dk_U1 a_Ru_reckon_142 (dko_21 _) rfl
theorem d_Ru_reckon_144 : decode b_Ru_reckon 144 = .ok (.bipush 47, 2) := dk_S1 a_Ru_reckon_144 (dko_16 _) (by decide +kernel)
theorem d_Ru_reckon_146 : decode b_Ru_reckon 146 = .ok (.if_icmp .ne 23, 3) := dk_S2 a_Ru_reckon_146 (dko_160 _) (by decide +kernel)
theorem d_Ru_reckon_149 : decode b_Ru_reckon 149 = .ok (.aload_n 0, 1) := dk_0 a_Ru_reckon_149 (dko_42 _)
theorem d_Ru_reckon_150 : decode b_Ru_reckon 150 = .ok (.getfield 51, 3) := dk_U2 a_Ru_reckon_150 (dko_180 _) rfl
theorem d_Ru_reckon_153 : decode b_Ru_reckon 153 = .ok (.iload_n 3, 1) := dk_0 a_Ru_reckon_153 (dko_29 _)
theorem d_Ru_reckon_154 : decode b_Ru_reckon 154 = .ok (.laload, 1) := dk_0 a_Ru_reckon_154 (dko_47 _)
theorem d_Ru_reckon_155 : decode b_Ru_reckon 155 = .ok (.lconst 0, 1) := dk_0 a_Ru_reckon_155 (dko_9 _)
theorem d_Ru_reckon_156 : decode b_Ru_reckon 156 = .ok (.lcmp, 1) := dk_0 a_Ru_reckon_156 (dko_148 _)
theorem d_Ru_reckon_157 : decode b_Ru_reckon 157 = .ok (.ifCond .ne 12, 3) := dk_S2 a_Ru_reckon_157 (dko_154 _) (by decide +kernel)
theorem d_Ru_reckon_160 : decode b_Ru_reckon 160 = .ok (.aload_n 0, 1) := dk_0 a_Ru_reckon_160 (dko_42 _)
theorem d_Ru_reckon_161 : decode b_Ru_reckon 161 = .ok (.iconst 1, 1) := dk_0 a_Ru_reckon_161 (dko_4 _)
theorem d_Ru_reckon_162 : decode b_Ru_reckon 162 = .ok (.iload 4, 2) := dk_U1 a_Ru_reckon_162 (dko_21 _) rfl
theorem d_Ru_reckon_164 : decode b_Ru_reckon 164 = .ok (.invokevirtual 141, 3) := dk_U2 a_Ru_reckon_164 (dko_182 _) rfl
theorem d_Ru_reckon_167 : decode b_Ru_reckon 167 = .ok (.lconst 0, 1) := dk_0 a_Ru_reckon_167 (dko_9 _)
theorem d_Ru_reckon_168 : decode b_Ru_reckon 168 = .ok (.lreturn, 1) := dk_0 a_Ru_reckon_168 (dko_173 _)
theorem d_Ru_reckon_169 : decode b_Ru_reckon 169 = .ok (.aload_n 0, 1) := dk_0 a_Ru_reckon_169 (dko_42 _)
theorem d_Ru_reckon_170 : decode b_Ru_reckon 170 = .ok (.getfield 51, 3) := dk_U2 a_Ru_reckon_170 (dko_180 _) rfl
theorem d_Ru_reckon_173 : decode b_Ru_reckon 173 = .ok (.iload_n 3, 1) := dk_0 a_Ru_reckon_173 (dko_29 _)
theorem d_Ru_reckon_174 : decode b_Ru_reckon 174 = .ok (.iconst 1, 1) := dk_0 a_Ru_reckon_174 (dko_4 _)
theorem d_Ru_reckon_175 : decode b_Ru_reckon 175 = .ok (.isub, 1) := dk_0 a_Ru_reckon_175 (dko_100 _)
theorem d_Ru_reckon_176 : decode b_Ru_reckon 176 = .ok (.iload 5, 2) := dk_U1 a_Ru_reckon_176 (dko_21 _) rfl
theorem d_Ru_reckon_178 : decode b_Ru_reckon 178 = .ok (.aload_n 0, 1) := dk_0 a_Ru_reckon_178 (dko_42 _)
theorem d_Ru_reckon_179 : decode b_Ru_reckon 179 = .ok (.getfield 51, 3) := dk_U2 a_Ru_reckon_179 (dko_180 _) rfl
theorem d_Ru_reckon_182 : decode b_Ru_reckon 182 = .ok (.iload_n 3, 1) := dk_0 a_Ru_reckon_182 (dko_29 _)
theorem d_Ru_reckon_183 : decode b_Ru_reckon 183 = .ok (.iconst 1, 1) := dk_0 a_Ru_reckon_183 (dko_4 _)
theorem d_Ru_reckon_184 : decode b_Ru_reckon 184 = .ok (.isub, 1) := dk_0 a_Ru_reckon_184 (dko_100 _)
theorem d_Ru_reckon_185 : decode b_Ru_reckon 185 = .ok (.laload, 1) := dk_0 a_Ru_reckon_185 (dko_47 _)
theorem d_Ru_reckon_186 : decode b_Ru_reckon 186 = .ok (.aload_n 0, 1) := dk_0 a_Ru_reckon_186 (dko_42 _)
theorem d_Ru_reckon_187 : decode b_Ru_reckon 187 = .ok (.getfield 51, 3) := dk_U2 a_Ru_reckon_187 (dko_180 _) rfl
theorem d_Ru_reckon_190 : decode b_Ru_reckon 190 = .ok (.iload_n 3, 1) := dk_0 a_Ru_reckon_190 (dko_29 _)
theorem d_Ru_reckon_191 : decode b_Ru_reckon 191 = .ok (.laload, 1) := dk_0 a_Ru_reckon_191 (dko_47 _)
theorem d_Ru_reckon_192 : decode b_Ru_reckon 192 = .ok (.invokestatic 208, 3) := dk_U2 a_Ru_reckon_192 (dko_184 _) rfl
theorem d_Ru_reckon_195 : decode b_Ru_reckon 195 = .ok (.lastore, 1) := dk_0 a_Ru_reckon_195 (dko_80 _)
theorem d_Ru_reckon_196 : decode b_Ru_reckon 196 = .ok (.iinc 4 1, 3) := dk_US a_Ru_reckon_196 (dko_132 _) (by decide +kernel)
theorem d_Ru_reckon_199 : decode b_Ru_reckon 199 = .ok (.goto (-187), 3) := dk_S2 a_Ru_reckon_199 (dko_167 _) (by decide +kernel)
theorem d_Ru_reckon_202 : decode b_Ru_reckon 202 = .ok (.aload_n 0, 1) := dk_0 a_Ru_reckon_202 (dko_42 _)
theorem d_Ru_reckon_203 : decode b_Ru_reckon 203 = .ok (.getfield 51, 3) := dk_U2 a_Ru_reckon_203 (dko_180 _) rfl
theorem d_Ru_reckon_206 : decode b_Ru_reckon 206 = .ok (.iconst 0, 1) := dk_0 a_Ru_reckon_206 (dko_3 _)
theorem d_Ru_reckon_207 : decode b_Ru_reckon 207 = .ok (.laload, 1) := dk_0 a_Ru_reckon_207 (dko_47 _)
theorem d_Ru_reckon_208 : decode b_Ru_reckon 208 = .ok (.lreturn, 1) := dk_0 a_Ru_reckon_208 (dko_173 _)
set_option maxHeartbeats 4000000 in
set_option maxRecDepth 100000 in
theorem ok_Ru_reckon (pc : Nat) : OpS mt mi_Ru_reckon pc (cs_Ru_reckon pc) := (os_n (os_n (os_n (os_n (os_n (os_n (os_l (so_iconst d_Ru_reckon_0 (by decide))) (os_n (os_l (so_istore_n d_Ru_reckon_1 rfl (by decide))) (os_l (so_aload_n d_Ru_reckon_2 rfl)))) (os_n (os_n (os_l (so_get (C := R_Ru) (T := F_Ru) (N := 21) (j := 16) in_Ru rfl (by decide) mw_529 d_Ru_reckon_3)) (os_l (so_iconst d_Ru_reckon_6 (by decide)))) (os_n (os_l (so_lconst d_Ru_reckon_7 (by decide))) (os_l (so_lastore d_Ru_reckon_8))))) (os_n (os_n (os_l (so_iload_n d_Ru_reckon_9 rfl)) (os_n (os_l (so_istore d_Ru_reckon_10 (by decide))) (os_l (so_iload d_Ru_reckon_12)))) (os_n (os_n (os_l (so_iload_n d_Ru_reckon_14 rfl)) (os_l (so_icge d_Ru_reckon_15 (by decide)))) (os_n (os_l (so_iload_n d_Ru_reckon_18 rfl)) (os_l (so_aload_n d_Ru_reckon_19 rfl)))))) (os_n (os_n (os_n (os_l (so_get (C := R_Ru) (T := F_Ru) (N := 21) (j := 16) in_Ru rfl (by decide) mw_529 d_Ru_reckon_20)) (os_n (os_l (so_alen d_Ru_reckon_23)) (os_l (so_icge d_Ru_reckon_24 (by decide))))) (os_n (os_n (os_l (so_aload_n d_Ru_reckon_27 rfl)) (os_l (so_get (C := R_Ru) (T := F_Ru) (N := 21) (j := 3) in_Ru rfl (by decide) mw_514 d_Ru_reckon_28))) (os_n (os_l (so_get (C := R_Pr) (T := F_Pr) (N := 18) (j := 3) in_Pr rfl (by decide) mw_438 d_Ru_reckon_31)) (os_l (so_iload d_Ru_reckon_34))))) (os_n (os_n (os_n (os_l (so_iaload d_Ru_reckon_36)) (os_l (so_istore d_Ru_reckon_37 (by decide)))) (os_n (os_l (so_iload d_Ru_reckon_39)) (os_l (so_bipush d_Ru_reckon_41 (by decide))))) (os_n (os_n (os_l (so_iceq d_Ru_reckon_43 (by decide))) (os_l (so_iload d_Ru_reckon_46))) (os_n (os_l (so_bipush d_Ru_reckon_48 (by decide))) (os_l (so_icne d_Ru_reckon_50 (by decide)))))))) (os_n (os_n (os_n (os_n (os_l (so_aload_n d_Ru_reckon_53 rfl)) (os_n (os_l (so_get (C := R_Ru) (T := F_Ru) (N := 21) (j := 16) in_Ru rfl (by decide) mw_529 d_Ru_reckon_54)) (os_l (so_iload_n d_Ru_reckon_57 rfl)))) (os_n (os_n (os_l (so_iload d_Ru_reckon_58)) (os_l (so_bipush d_Ru_reckon_60 (by decide)))) (os_n (os_l (so_icne d_Ru_reckon_62 (by decide))) (os_l (so_aload_n d_Ru_reckon_65 rfl))))) (os_n (os_n (os_l (so_get (C := R_Ru) (T := F_Ru) (N := 21) (j := 3) in_Ru rfl (by decide) mw_514 d_Ru_reckon_66)) (os_n (os_l (so_get (C := R_Pr) (T := F_Pr) (N := 18) (j := 9) in_Pr rfl (by decide) mw_455 d_Ru_reckon_69)) (os_l (so_iload d_Ru_reckon_72)))) (os_n (os_n (os_l (so_laload d_Ru_reckon_74)) (os_l (so_goto d_Ru_reckon_75 (by decide)))) (os_n (os_l (so_aload_n d_Ru_reckon_78 rfl)) (os_l (so_get (C := R_Ru) (T := F_Ru) (N := 21) (j := 3) in_Ru rfl (by decide) mw_514 d_Ru_reckon_79)))))) (os_n (os_n (os_n (os_l (so_get (C := R_Pr) (T := F_Pr) (N := 18) (j := 15) in_Pr rfl (by decide) mw_469 d_Ru_reckon_82)) (os_n (os_l (so_aload_n d_Ru_reckon_85 rfl)) (os_l (so_get (C := R_Ru) (T := F_Ru) (N := 21) (j := 3) in_Ru rfl (by decide) mw_514 d_Ru_reckon_86)))) (os_n (os_n (os_l (so_get (C := R_Pr) (T := F_Pr) (N := 18) (j := 4) in_Pr rfl (by decide) mw_442 d_Ru_reckon_89)) (os_l (so_iload d_Ru_reckon_92))) (os_n (os_l (so_iaload d_Ru_reckon_94)) (os_l (so_laload d_Ru_reckon_95))))) (os_n (os_n (os_n (os_l (so_lastore d_Ru_reckon_96)) (os_l (so_iinc d_Ru_reckon_97 (by decide) (by decide)))) (os_n (os_l (so_goto d_Ru_reckon_100 (by decide))) (os_l (so_iload d_Ru_reckon_103)))) (os_n (os_n (os_l (so_bipush d_Ru_reckon_105 (by decide))) (os_l (so_icne d_Ru_reckon_107 (by decide)))) (os_n (os_l (so_iload_n d_Ru_reckon_110 rfl)) (os_l (so_ifle d_Ru_reckon_111 (by decide))))))))) (os_n (os_n (os_n (os_n (os_n (os_l (so_aload_n d_Ru_reckon_114 rfl)) (os_n (os_l (so_get (C := R_Ru) (T := F_Ru) (N := 21) (j := 16) in_Ru rfl (by decide) mw_529 d_Ru_reckon_115)) (os_l (so_iload_n d_Ru_reckon_118 rfl)))) (os_n (os_n (os_l (so_iconst d_Ru_reckon_119 (by decide))) (os_l (so_isub d_Ru_reckon_120))) (os_n (os_l (so_aload_n d_Ru_reckon_121 rfl)) (os_l (so_get (C := R_Ru) (T := F_Ru) (N := 21) (j := 16) in_Ru rfl (by decide) mw_529 d_Ru_reckon_122))))) (os_n (os_n (os_l (so_iload_n d_Ru_reckon_125 rfl)) (os_n (os_l (so_iconst d_Ru_reckon_126 (by decide))) (os_l (so_isub d_Ru_reckon_127)))) (os_n (os_n (os_l (so_laload d_Ru_reckon_128)) (os_l (so_lneg d_Ru_reckon_129))) (os_n (os_l (so_lastore d_Ru_reckon_130)) (os_l (so_goto d_Ru_reckon_131 (by decide))))))) (os_n (os_n (os_n (os_l (so_iload_n d_Ru_reckon_134 rfl)) (os_n (os_l (so_iconst d_Ru_reckon_135 (by decide))) (os_l (so_icle d_Ru_reckon_136 (by decide))))) (os_n (os_n (os_l (so_iinc d_Ru_reckon_139 (by decide) (by decide))) (os_l (so_iload d_Ru_reckon_142))) (os_n (os_l (so_bipush d_Ru_reckon_144 (by decide))) (os_l (so_icne d_Ru_reckon_146 (by decide)))))) (os_n (os_n (os_n (os_l (so_aload_n d_Ru_reckon_149 rfl)) (os_l (so_get (C := R_Ru) (T := F_Ru) (N := 21) (j := 16) in_Ru rfl (by decide) mw_529 d_Ru_reckon_150))) (os_n (os_l (so_iload_n d_Ru_reckon_153 rfl)) (os_l (so_laload d_Ru_reckon_154)))) (os_n (os_n (os_l (so_lconst d_Ru_reckon_155 (by decide))) (os_l (so_lcmp d_Ru_reckon_156))) (os_n (os_l (so_ifne d_Ru_reckon_157 (by decide))) (os_l (so_aload_n d_Ru_reckon_160 rfl))))))) (os_n (os_n (os_n (os_n (os_l (so_iconst d_Ru_reckon_161 (by decide))) (os_n (os_l (so_iload d_Ru_reckon_162)) (os_l (so_callV (iv := mi_Ru_fault) rfl rfl rfl mw_1361 mw_1363 sl_68 mw_11 mw_1364 ⟨by decide +kernel, by decide +kernel, by decide +kernel⟩ (by decide) d_Ru_reckon_164)))) (os_n (os_n (os_l (so_lconst d_Ru_reckon_167 (by decide))) (os_l (so_lreturn rfl d_Ru_reckon_168))) (os_n (os_l (so_aload_n d_Ru_reckon_169 rfl)) (os_l (so_get (C := R_Ru) (T := F_Ru) (N := 21) (j := 16) in_Ru rfl (by decide) mw_529 d_Ru_reckon_170))))) (os_n (os_n (os_n (os_l (so_iload_n d_Ru_reckon_173 rfl)) (os_l (so_iconst d_Ru_reckon_174 (by decide)))) (os_n (os_l (so_isub d_Ru_reckon_175)) (os_l (so_iload d_Ru_reckon_176)))) (os_n (os_n (os_l (so_aload_n d_Ru_reckon_178 rfl)) (os_l (so_get (C := R_Ru) (T := F_Ru) (N := 21) (j := 16) in_Ru rfl (by decide) mw_529 d_Ru_reckon_179))) (os_n (os_l (so_iload_n d_Ru_reckon_182 rfl)) (os_l (so_iconst d_Ru_reckon_183 (by decide))))))) (os_n (os_n (os_n (os_l (so_isub d_Ru_reckon_184)) (os_n (os_l (so_laload d_Ru_reckon_185)) (os_l (so_aload_n d_Ru_reckon_186 rfl)))) (os_n (os_n (os_l (so_get (C := R_Ru) (T := F_Ru) (N := 21) (j := 16) in_Ru rfl (by decide) mw_529 d_Ru_reckon_187)) (os_l (so_iload_n d_Ru_reckon_190 rfl))) (os_n (os_l (so_laload d_Ru_reckon_191)) (os_l (so_callS (iv := mi_Ru_apply) rfl mw_1366 mw_1367 mw_11 mw_1368 ⟨by decide +kernel, by decide +kernel, by decide +kernel⟩ (by decide) d_Ru_reckon_192))))) (os_n (os_n (os_n (os_l (so_lastore d_Ru_reckon_195)) (os_l (so_iinc d_Ru_reckon_196 (by decide) (by decide)))) (os_n (os_l (so_goto d_Ru_reckon_199 (by decide))) (os_l (so_aload_n d_Ru_reckon_202 rfl)))) (os_n (os_n (os_l (so_get (C := R_Ru) (T := F_Ru) (N := 21) (j := 16) in_Ru rfl (by decide) mw_529 d_Ru_reckon_203)) (os_l (so_iconst d_Ru_reckon_206 (by decide)))) (os_n (os_l (so_laload d_Ru_reckon_207)) (os_l (so_lreturn rfl d_Ru_reckon_208)))))))))
abbrev t_Ru_apply_171 : List UInt8 := 173 :: []
abbrev t_Ru_apply_170 : List UInt8 := 9 :: t_Ru_apply_171
abbrev t_Ru_apply_167 : List UInt8 := 167 :: 0 :: 4 :: t_Ru_apply_170
abbrev t_Ru_apply_164 : List UInt8 := 20 :: 0 :: 187 :: t_Ru_apply_167
abbrev t_Ru_apply_161 : List UInt8 := 158 :: 0 :: 9 :: t_Ru_apply_164
abbrev t_Ru_apply_160 : List UInt8 := 148 :: t_Ru_apply_161
abbrev t_Ru_apply_159 : List UInt8 := 33 :: t_Ru_apply_160
abbrev t_Ru_apply_158 : List UInt8 := 31 :: t_Ru_apply_159
abbrev t_Ru_apply_157 : List UInt8 := 173 :: t_Ru_apply_158
abbrev t_Ru_apply_156 : List UInt8 := 9 :: t_Ru_apply_157
abbrev t_Ru_apply_153 : List UInt8 := 167 :: 0 :: 4 :: t_Ru_apply_156
abbrev t_Ru_apply_150 : List UInt8 := 20 :: 0 :: 187 :: t_Ru_apply_153
abbrev t_Ru_apply_147 : List UInt8 := 154 :: 0 :: 9 :: t_Ru_apply_150
abbrev t_Ru_apply_146 : List UInt8 := 148 :: t_Ru_apply_147
abbrev t_Ru_apply_145 : List UInt8 := 33 :: t_Ru_apply_146
abbrev t_Ru_apply_144 : List UInt8 := 31 :: t_Ru_apply_145
abbrev t_Ru_apply_143 : List UInt8 := 173 :: t_Ru_apply_144
abbrev t_Ru_apply_142 : List UInt8 := 9 :: t_Ru_apply_143
abbrev t_Ru_apply_139 : List UInt8 := 167 :: 0 :: 4 :: t_Ru_apply_142
abbrev t_Ru_apply_136 : List UInt8 := 20 :: 0 :: 187 :: t_Ru_apply_139
abbrev t_Ru_apply_133 : List UInt8 := 156 :: 0 :: 9 :: t_Ru_apply_136
abbrev t_Ru_apply_132 : List UInt8 := 148 :: t_Ru_apply_133
abbrev t_Ru_apply_131 : List UInt8 := 33 :: t_Ru_apply_132
abbrev t_Ru_apply_130 : List UInt8 := 31 :: t_Ru_apply_131
abbrev t_Ru_apply_129 : List UInt8 := 173 :: t_Ru_apply_130
abbrev t_Ru_apply_128 : List UInt8 := 109 :: t_Ru_apply_129
abbrev t_Ru_apply_127 : List UInt8 := 33 :: t_Ru_apply_128
abbrev t_Ru_apply_126 : List UInt8 := 105 :: t_Ru_apply_127
abbrev t_Ru_apply_123 : List UInt8 := 20 :: 0 :: 187 :: t_Ru_apply_126
abbrev t_Ru_apply_122 : List UInt8 := 31 :: t_Ru_apply_123
abbrev t_Ru_apply_119 : List UInt8 := 167 :: 0 :: 10 :: t_Ru_apply_122
abbrev t_Ru_apply_118 : List UInt8 := 9 :: t_Ru_apply_119
abbrev t_Ru_apply_115 : List UInt8 := 154 :: 0 :: 7 :: t_Ru_apply_118
abbrev t_Ru_apply_114 : List UInt8 := 148 :: t_Ru_apply_115
abbrev t_Ru_apply_113 : List UInt8 := 9 :: t_Ru_apply_114
abbrev t_Ru_apply_112 : List UInt8 := 33 :: t_Ru_apply_113
abbrev t_Ru_apply_111 : List UInt8 := 173 :: t_Ru_apply_112
abbrev t_Ru_apply_110 : List UInt8 := 109 :: t_Ru_apply_111
abbrev t_Ru_apply_107 : List UInt8 := 20 :: 0 :: 187 :: t_Ru_apply_110
abbrev t_Ru_apply_106 : List UInt8 := 105 :: t_Ru_apply_107
abbrev t_Ru_apply_105 : List UInt8 := 33 :: t_Ru_apply_106
abbrev t_Ru_apply_104 : List UInt8 := 31 :: t_Ru_apply_105
abbrev t_Ru_apply_103 : List UInt8 := 173 :: t_Ru_apply_104
abbrev t_Ru_apply_102 : List UInt8 := 101 :: t_Ru_apply_103
abbrev t_Ru_apply_101 : List UInt8 := 33 :: t_Ru_apply_102
abbrev t_Ru_apply_100 : List UInt8 := 31 :: t_Ru_apply_101
abbrev t_Ru_apply_99 : List UInt8 := 173 :: t_Ru_apply_100
abbrev t_Ru_apply_98 : List UInt8 := 97 :: t_Ru_apply_99
abbrev t_Ru_apply_97 : List UInt8 := 33 :: t_Ru_apply_98
abbrev t_Ru_apply_96 : List UInt8 := 31 :: t_Ru_apply_97
abbrev t_Ru_apply_1 : List UInt8 := 170 :: 0 :: 0 :: 0 :: 0 :: 0 :: 157 :: 0 :: 0 :: 0 :: 42 :: 0 :: 0 :: 0 :: 61 :: 0 :: 0 :: 0 :: 103 :: 0 :: 0 :: 0 :: 95 :: 0 :: 0 :: 0 :: 157 :: 0 :: 0 :: 0 :: 99 :: 0 :: 0 :: 0 :: 157 :: 0 :: 0 :: 0 :: 111 :: 0 :: 0 :: 0 :: 157 :: 0 :: 0 :: 0 :: 157 :: 0 :: 0 :: 0 :: 157 :: 0 :: 0 :: 0 :: 157 :: 0 :: 0 :: 0 :: 157 :: 0 :: 0 :: 0 :: 157 :: 0 :: 0 :: 0 :: 157 :: 0 :: 0 :: 0 :: 157 :: 0 :: 0 :: 0 :: 157 :: 0 :: 0 :: 0 :: 157 :: 0 :: 0 :: 0 :: 157 :: 0 :: 0 :: 0 :: 157 :: 0 :: 0 :: 0 :: 129 :: 0 :: 0 :: 0 :: 143 :: t_Ru_apply_96
abbrev t_Ru_apply_0 : List UInt8 := 26 :: t_Ru_apply_1
theorem a_Ru_apply_0 : dk_at b_Ru_apply 0 t_Ru_apply_0 := dk_start (by decide +kernel)
theorem a_Ru_apply_1 : dk_at b_Ru_apply 1 t_Ru_apply_1 := dk_go 1 a_Ru_apply_0 rfl
theorem a_Ru_apply_96 : dk_at b_Ru_apply 96 t_Ru_apply_96 := dk_go 95 a_Ru_apply_1 rfl
theorem a_Ru_apply_97 : dk_at b_Ru_apply 97 t_Ru_apply_97 := dk_go 1 a_Ru_apply_96 rfl
theorem a_Ru_apply_98 : dk_at b_Ru_apply 98 t_Ru_apply_98 := dk_go 1 a_Ru_apply_97 rfl
theorem a_Ru_apply_99 : dk_at b_Ru_apply 99 t_Ru_apply_99 := dk_go 1 a_Ru_apply_98 rfl
theorem a_Ru_apply_100 : dk_at b_Ru_apply 100 t_Ru_apply_100 := dk_go 1 a_Ru_apply_99 rfl
theorem a_Ru_apply_101 : dk_at b_Ru_apply 101 t_Ru_apply_101 := dk_go 1 a_Ru_apply_100 rfl
theorem a_Ru_apply_102 : dk_at b_Ru_apply 102 t_Ru_apply_102 := dk_go 1 a_Ru_apply_101 rfl
theorem a_Ru_apply_103 : dk_at b_Ru_apply 103 t_Ru_apply_103 := dk_go 1 a_Ru_apply_102 rfl
theorem a_Ru_apply_104 : dk_at b_Ru_apply 104 t_Ru_apply_104 := dk_go 1 a_Ru_apply_103 rfl
theorem a_Ru_apply_105 : dk_at b_Ru_apply 105 t_Ru_apply_105 := dk_go 1 a_Ru_apply_104 rfl
theorem a_Ru_apply_106 : dk_at b_Ru_apply 106 t_Ru_apply_106 := dk_go 1 a_Ru_apply_105 rfl
theorem a_Ru_apply_107 : dk_at b_Ru_apply 107 t_Ru_apply_107 := dk_go 1 a_Ru_apply_106 rfl
theorem a_Ru_apply_110 : dk_at b_Ru_apply 110 t_Ru_apply_110 := dk_go 3 a_Ru_apply_107 rfl
theorem a_Ru_apply_111 : dk_at b_Ru_apply 111 t_Ru_apply_111 := dk_go 1 a_Ru_apply_110 rfl
theorem a_Ru_apply_112 : dk_at b_Ru_apply 112 t_Ru_apply_112 := dk_go 1 a_Ru_apply_111 rfl
theorem a_Ru_apply_113 : dk_at b_Ru_apply 113 t_Ru_apply_113 := dk_go 1 a_Ru_apply_112 rfl
theorem a_Ru_apply_114 : dk_at b_Ru_apply 114 t_Ru_apply_114 := dk_go 1 a_Ru_apply_113 rfl
theorem a_Ru_apply_115 : dk_at b_Ru_apply 115 t_Ru_apply_115 := dk_go 1 a_Ru_apply_114 rfl
theorem a_Ru_apply_118 : dk_at b_Ru_apply 118 t_Ru_apply_118 := dk_go 3 a_Ru_apply_115 rfl
theorem a_Ru_apply_119 : dk_at b_Ru_apply 119 t_Ru_apply_119 := dk_go 1 a_Ru_apply_118 rfl
theorem a_Ru_apply_122 : dk_at b_Ru_apply 122 t_Ru_apply_122 := dk_go 3 a_Ru_apply_119 rfl
theorem a_Ru_apply_123 : dk_at b_Ru_apply 123 t_Ru_apply_123 := dk_go 1 a_Ru_apply_122 rfl
theorem a_Ru_apply_126 : dk_at b_Ru_apply 126 t_Ru_apply_126 := dk_go 3 a_Ru_apply_123 rfl
theorem a_Ru_apply_127 : dk_at b_Ru_apply 127 t_Ru_apply_127 := dk_go 1 a_Ru_apply_126 rfl
theorem a_Ru_apply_128 : dk_at b_Ru_apply 128 t_Ru_apply_128 := dk_go 1 a_Ru_apply_127 rfl
theorem a_Ru_apply_129 : dk_at b_Ru_apply 129 t_Ru_apply_129 := dk_go 1 a_Ru_apply_128 rfl
theorem a_Ru_apply_130 : dk_at b_Ru_apply 130 t_Ru_apply_130 := dk_go 1 a_Ru_apply_129 rfl
theorem a_Ru_apply_131 : dk_at b_Ru_apply 131 t_Ru_apply_131 := dk_go 1 a_Ru_apply_130 rfl
theorem a_Ru_apply_132 : dk_at b_Ru_apply 132 t_Ru_apply_132 := dk_go 1 a_Ru_apply_131 rfl
theorem a_Ru_apply_133 : dk_at b_Ru_apply 133 t_Ru_apply_133 := dk_go 1 a_Ru_apply_132 rfl
theorem a_Ru_apply_136 : dk_at b_Ru_apply 136 t_Ru_apply_136 := dk_go 3 a_Ru_apply_133 rfl
theorem a_Ru_apply_139 : dk_at b_Ru_apply 139 t_Ru_apply_139 := dk_go 3 a_Ru_apply_136 rfl
theorem a_Ru_apply_142 : dk_at b_Ru_apply 142 t_Ru_apply_142 := dk_go 3 a_Ru_apply_139 rfl
theorem a_Ru_apply_143 : dk_at b_Ru_apply 143 t_Ru_apply_143 := dk_go 1 a_Ru_apply_142 rfl
theorem a_Ru_apply_144 : dk_at b_Ru_apply 144 t_Ru_apply_144 := dk_go 1 a_Ru_apply_143 rfl
theorem a_Ru_apply_145 : dk_at b_Ru_apply 145 t_Ru_apply_145 := dk_go 1 a_Ru_apply_144 rfl
theorem a_Ru_apply_146 : dk_at b_Ru_apply 146 t_Ru_apply_146 := dk_go 1 a_Ru_apply_145 rfl
theorem a_Ru_apply_147 : dk_at b_Ru_apply 147 t_Ru_apply_147 := dk_go 1 a_Ru_apply_146 rfl
theorem a_Ru_apply_150 : dk_at b_Ru_apply 150 t_Ru_apply_150 := dk_go 3 a_Ru_apply_147 rfl
theorem a_Ru_apply_153 : dk_at b_Ru_apply 153 t_Ru_apply_153 := dk_go 3 a_Ru_apply_150 rfl
theorem a_Ru_apply_156 : dk_at b_Ru_apply 156 t_Ru_apply_156 := dk_go 3 a_Ru_apply_153 rfl
theorem a_Ru_apply_157 : dk_at b_Ru_apply 157 t_Ru_apply_157 := dk_go 1 a_Ru_apply_156 rfl
theorem a_Ru_apply_158 : dk_at b_Ru_apply 158 t_Ru_apply_158 := dk_go 1 a_Ru_apply_157 rfl
theorem a_Ru_apply_159 : dk_at b_Ru_apply 159 t_Ru_apply_159 := dk_go 1 a_Ru_apply_158 rfl
theorem a_Ru_apply_160 : dk_at b_Ru_apply 160 t_Ru_apply_160 := dk_go 1 a_Ru_apply_159 rfl
theorem a_Ru_apply_161 : dk_at b_Ru_apply 161 t_Ru_apply_161 := dk_go 1 a_Ru_apply_160 rfl
theorem a_Ru_apply_164 : dk_at b_Ru_apply 164 t_Ru_apply_164 := dk_go 3 a_Ru_apply_161 rfl
theorem a_Ru_apply_167 : dk_at b_Ru_apply 167 t_Ru_apply_167 := dk_go 3 a_Ru_apply_164 rfl
theorem a_Ru_apply_170 : dk_at b_Ru_apply 170 t_Ru_apply_170 := dk_go 3 a_Ru_apply_167 rfl
theorem a_Ru_apply_171 : dk_at b_Ru_apply 171 t_Ru_apply_171 := dk_go 1 a_Ru_apply_170 rfl
theorem d_Ru_apply_0 : decode b_Ru_apply 0 = .ok (.iload_n 0, 1) := dk_0 a_Ru_apply_0 (dko_26 _)
theorem d_Ru_apply_1 : decode b_Ru_apply 1 = .ok (.tableswitch 157 42 61 #[103, 95, 157, 99, 157, 111, 157, 157, 157, 157, 157, 157, 157, 157, 157, 157, 157, 157, 129, 143], 95) := by decide +kernel
theorem d_Ru_apply_96 : decode b_Ru_apply 96 = .ok (.lload_n 1, 1) := dk_0 a_Ru_apply_96 (dko_31 _)
theorem d_Ru_apply_97 : decode b_Ru_apply 97 = .ok (.lload_n 3, 1) := dk_0 a_Ru_apply_97 (dko_33 _)
theorem d_Ru_apply_98 : decode b_Ru_apply 98 = .ok (.ladd, 1) := dk_0 a_Ru_apply_98 (dko_97 _)
theorem d_Ru_apply_99 : decode b_Ru_apply 99 = .ok (.lreturn, 1) := dk_0 a_Ru_apply_99 (dko_173 _)
theorem d_Ru_apply_100 : decode b_Ru_apply 100 = .ok (.lload_n 1, 1) := dk_0 a_Ru_apply_100 (dko_31 _)
theorem d_Ru_apply_101 : decode b_Ru_apply 101 = .ok (.lload_n 3, 1) := dk_0 a_Ru_apply_101 (dko_33 _)
theorem d_Ru_apply_102 : decode b_Ru_apply 102 = .ok (.lsub, 1) := dk_0 a_Ru_apply_102 (dko_101 _)
theorem d_Ru_apply_103 : decode b_Ru_apply 103 = .ok (.lreturn, 1) := dk_0 a_Ru_apply_103 (dko_173 _)
theorem d_Ru_apply_104 : decode b_Ru_apply 104 = .ok (.lload_n 1, 1) := dk_0 a_Ru_apply_104 (dko_31 _)
theorem d_Ru_apply_105 : decode b_Ru_apply 105 = .ok (.lload_n 3, 1) := dk_0 a_Ru_apply_105 (dko_33 _)
theorem d_Ru_apply_106 : decode b_Ru_apply 106 = .ok (.lmul, 1) := dk_0 a_Ru_apply_106 (dko_105 _)
theorem d_Ru_apply_107 : decode b_Ru_apply 107 = .ok (.ldc2_w 187, 3) := dk_U2 a_Ru_apply_107 (dko_20 _) rfl
theorem d_Ru_apply_110 : decode b_Ru_apply 110 = .ok (.ldiv, 1) := dk_0 a_Ru_apply_110 (dko_109 _)
theorem d_Ru_apply_111 : decode b_Ru_apply 111 = .ok (.lreturn, 1) := dk_0 a_Ru_apply_111 (dko_173 _)
theorem d_Ru_apply_112 : decode b_Ru_apply 112 = .ok (.lload_n 3, 1) := dk_0 a_Ru_apply_112 (dko_33 _)
theorem d_Ru_apply_113 : decode b_Ru_apply 113 = .ok (.lconst 0, 1) := dk_0 a_Ru_apply_113 (dko_9 _)
theorem d_Ru_apply_114 : decode b_Ru_apply 114 = .ok (.lcmp, 1) := dk_0 a_Ru_apply_114 (dko_148 _)
theorem d_Ru_apply_115 : decode b_Ru_apply 115 = .ok (.ifCond .ne 7, 3) := dk_S2 a_Ru_apply_115 (dko_154 _) (by decide +kernel)
theorem d_Ru_apply_118 : decode b_Ru_apply 118 = .ok (.lconst 0, 1) := dk_0 a_Ru_apply_118 (dko_9 _)
theorem d_Ru_apply_119 : decode b_Ru_apply 119 = .ok (.goto 10, 3) := dk_S2 a_Ru_apply_119 (dko_167 _) (by decide +kernel)
theorem d_Ru_apply_122 : decode b_Ru_apply 122 = .ok (.lload_n 1, 1) := dk_0 a_Ru_apply_122 (dko_31 _)
theorem d_Ru_apply_123 : decode b_Ru_apply 123 = .ok (.ldc2_w 187, 3) := dk_U2 a_Ru_apply_123 (dko_20 _) rfl
theorem d_Ru_apply_126 : decode b_Ru_apply 126 = .ok (.lmul, 1) := dk_0 a_Ru_apply_126 (dko_105 _)
theorem d_Ru_apply_127 : decode b_Ru_apply 127 = .ok (.lload_n 3, 1) := dk_0 a_Ru_apply_127 (dko_33 _)
theorem d_Ru_apply_128 : decode b_Ru_apply 128 = .ok (.ldiv, 1) := dk_0 a_Ru_apply_128 (dko_109 _)
theorem d_Ru_apply_129 : decode b_Ru_apply 129 = .ok (.lreturn, 1) := dk_0 a_Ru_apply_129 (dko_173 _)
theorem d_Ru_apply_130 : decode b_Ru_apply 130 = .ok (.lload_n 1, 1) := dk_0 a_Ru_apply_130 (dko_31 _)
theorem d_Ru_apply_131 : decode b_Ru_apply 131 = .ok (.lload_n 3, 1) := dk_0 a_Ru_apply_131 (dko_33 _)
theorem d_Ru_apply_132 : decode b_Ru_apply 132 = .ok (.lcmp, 1) := dk_0 a_Ru_apply_132 (dko_148 _)
theorem d_Ru_apply_133 : decode b_Ru_apply 133 = .ok (.ifCond .ge 9, 3) := dk_S2 a_Ru_apply_133 (dko_156 _) (by decide +kernel)
theorem d_Ru_apply_136 : decode b_Ru_apply 136 = .ok (.ldc2_w 187, 3) := dk_U2 a_Ru_apply_136 (dko_20 _) rfl
theorem d_Ru_apply_139 : decode b_Ru_apply 139 = .ok (.goto 4, 3) := dk_S2 a_Ru_apply_139 (dko_167 _) (by decide +kernel)
theorem d_Ru_apply_142 : decode b_Ru_apply 142 = .ok (.lconst 0, 1) := dk_0 a_Ru_apply_142 (dko_9 _)
theorem d_Ru_apply_143 : decode b_Ru_apply 143 = .ok (.lreturn, 1) := dk_0 a_Ru_apply_143 (dko_173 _)
theorem d_Ru_apply_144 : decode b_Ru_apply 144 = .ok (.lload_n 1, 1) := dk_0 a_Ru_apply_144 (dko_31 _)
theorem d_Ru_apply_145 : decode b_Ru_apply 145 = .ok (.lload_n 3, 1) := dk_0 a_Ru_apply_145 (dko_33 _)
theorem d_Ru_apply_146 : decode b_Ru_apply 146 = .ok (.lcmp, 1) := dk_0 a_Ru_apply_146 (dko_148 _)
theorem d_Ru_apply_147 : decode b_Ru_apply 147 = .ok (.ifCond .ne 9, 3) := dk_S2 a_Ru_apply_147 (dko_154 _) (by decide +kernel)
theorem d_Ru_apply_150 : decode b_Ru_apply 150 = .ok (.ldc2_w 187, 3) := dk_U2 a_Ru_apply_150 (dko_20 _) rfl
theorem d_Ru_apply_153 : decode b_Ru_apply 153 = .ok (.goto 4, 3) := dk_S2 a_Ru_apply_153 (dko_167 _) (by decide +kernel)
theorem d_Ru_apply_156 : decode b_Ru_apply 156 = .ok (.lconst 0, 1) := dk_0 a_Ru_apply_156 (dko_9 _)
theorem d_Ru_apply_157 : decode b_Ru_apply 157 = .ok (.lreturn, 1) := dk_0 a_Ru_apply_157 (dko_173 _)
theorem d_Ru_apply_158 : decode b_Ru_apply 158 = .ok (.lload_n 1, 1) := dk_0 a_Ru_apply_158 (dko_31 _)
theorem d_Ru_apply_159 : decode b_Ru_apply 159 = .ok (.lload_n 3, 1) := dk_0 a_Ru_apply_159 (dko_33 _)
theorem d_Ru_apply_160 : decode b_Ru_apply 160 = .ok (.lcmp, 1) := dk_0 a_Ru_apply_160 (dko_148 _)
theorem d_Ru_apply_161 : decode b_Ru_apply 161 = .ok (.ifCond .le 9, 3) := dk_S2 a_Ru_apply_161 (dko_158 _) (by decide +kernel)
theorem d_Ru_apply_164 : decode b_Ru_apply 164 = .ok (.ldc2_w 187, 3) := dk_U2 a_Ru_apply_164 (dko_20 _) rfl
theorem d_Ru_apply_167 : decode b_Ru_apply 167 = .ok (.goto 4, 3) := dk_S2 a_Ru_apply_167 (dko_167 _) (by decide +kernel)
theorem d_Ru_apply_170 : decode b_Ru_apply 170 = .ok (.lconst 0, 1) := dk_0 a_Ru_apply_170 (dko_9 _)
theorem d_Ru_apply_171 : decode b_Ru_apply 171 = .ok (.lreturn, 1) := dk_0 a_Ru_apply_171 (dko_173 _)
set_option maxHeartbeats 4000000 in
set_option maxRecDepth 100000 in
theorem ok_Ru_apply (pc : Nat) : OpS mt mi_Ru_apply pc (cs_Ru_apply pc) := (os_n (os_n (os_n (os_n (os_n (os_l (so_iload_n d_Ru_apply_0 rfl)) (os_n (os_l (so_tab d_Ru_apply_1 (by decide) (by decide) (by decide))) (os_l (so_lload_n d_Ru_apply_96 rfl)))) (os_n (os_l (so_lload_n d_Ru_apply_97 rfl)) (os_n (os_l (so_ladd d_Ru_apply_98)) (os_l (so_lreturn rfl d_Ru_apply_99))))) (os_n (os_n (os_l (so_lload_n d_Ru_apply_100 rfl)) (os_n (os_l (so_lload_n d_Ru_apply_101 rfl)) (os_l (so_lsub d_Ru_apply_102)))) (os_n (os_n (os_l (so_lreturn rfl d_Ru_apply_103)) (os_l (so_lload_n d_Ru_apply_104 rfl))) (os_n (os_l (so_lload_n d_Ru_apply_105 rfl)) (os_l (so_lmul d_Ru_apply_106)))))) (os_n (os_n (os_n (os_l (so_ldc2 mw_1369 d_Ru_apply_107)) (os_n (os_l (so_ldiv d_Ru_apply_110)) (os_l (so_lreturn rfl d_Ru_apply_111)))) (os_n (os_l (so_lload_n d_Ru_apply_112 rfl)) (os_n (os_l (so_lconst d_Ru_apply_113 (by decide))) (os_l (so_lcmp d_Ru_apply_114))))) (os_n (os_n (os_l (so_ifne d_Ru_apply_115 (by decide))) (os_n (os_l (so_lconst d_Ru_apply_118 (by decide))) (os_l (so_goto d_Ru_apply_119 (by decide))))) (os_n (os_n (os_l (so_lload_n d_Ru_apply_122 rfl)) (os_l (so_ldc2 mw_1369 d_Ru_apply_123))) (os_n (os_l (so_lmul d_Ru_apply_126)) (os_l (so_lload_n d_Ru_apply_127 rfl))))))) (os_n (os_n (os_n (os_n (os_l (so_ldiv d_Ru_apply_128)) (os_n (os_l (so_lreturn rfl d_Ru_apply_129)) (os_l (so_lload_n d_Ru_apply_130 rfl)))) (os_n (os_l (so_lload_n d_Ru_apply_131 rfl)) (os_n (os_l (so_lcmp d_Ru_apply_132)) (os_l (so_ifge d_Ru_apply_133 (by decide)))))) (os_n (os_n (os_l (so_ldc2 mw_1369 d_Ru_apply_136)) (os_n (os_l (so_goto d_Ru_apply_139 (by decide))) (os_l (so_lconst d_Ru_apply_142 (by decide))))) (os_n (os_n (os_l (so_lreturn rfl d_Ru_apply_143)) (os_l (so_lload_n d_Ru_apply_144 rfl))) (os_n (os_l (so_lload_n d_Ru_apply_145 rfl)) (os_l (so_lcmp d_Ru_apply_146)))))) (os_n (os_n (os_n (os_l (so_ifne d_Ru_apply_147 (by decide))) (os_n (os_l (so_ldc2 mw_1369 d_Ru_apply_150)) (os_l (so_goto d_Ru_apply_153 (by decide))))) (os_n (os_l (so_lconst d_Ru_apply_156 (by decide))) (os_n (os_l (so_lreturn rfl d_Ru_apply_157)) (os_l (so_lload_n d_Ru_apply_158 rfl))))) (os_n (os_n (os_l (so_lload_n d_Ru_apply_159 rfl)) (os_n (os_l (so_lcmp d_Ru_apply_160)) (os_l (so_ifle d_Ru_apply_161 (by decide))))) (os_n (os_n (os_l (so_ldc2 mw_1369 d_Ru_apply_164)) (os_l (so_goto d_Ru_apply_167 (by decide)))) (os_n (os_l (so_lconst d_Ru_apply_170 (by decide))) (os_l (so_lreturn rfl d_Ru_apply_171))))))))
abbrev t_Ru_seek_215 : List UInt8 := 172 :: []
abbrev t_Ru_seek_214 : List UInt8 := 2 :: t_Ru_seek_215
abbrev t_Ru_seek_211 : List UInt8 := 167 :: 0 :: 4 :: t_Ru_seek_214
abbrev t_Ru_seek_209 : List UInt8 := 21 :: 4 :: t_Ru_seek_211
abbrev t_Ru_seek_206 : List UInt8 := 156 :: 0 :: 8 :: t_Ru_seek_209
abbrev t_Ru_seek_203 : List UInt8 := 180 :: 0 :: 216 :: t_Ru_seek_206
abbrev t_Ru_seek_202 : List UInt8 := 42 :: t_Ru_seek_203
abbrev t_Ru_seek_199 : List UInt8 := 181 :: 0 :: 216 :: t_Ru_seek_202
abbrev t_Ru_seek_198 : List UInt8 := 100 :: t_Ru_seek_199
abbrev t_Ru_seek_197 : List UInt8 := 4 :: t_Ru_seek_198
abbrev t_Ru_seek_194 : List UInt8 := 180 :: 0 :: 216 :: t_Ru_seek_197
abbrev t_Ru_seek_193 : List UInt8 := 89 :: t_Ru_seek_194
abbrev t_Ru_seek_192 : List UInt8 := 42 :: t_Ru_seek_193
abbrev t_Ru_seek_191 : List UInt8 := 172 :: t_Ru_seek_192
abbrev t_Ru_seek_189 : List UInt8 := 21 :: 7 :: t_Ru_seek_191
abbrev t_Ru_seek_186 : List UInt8 := 153 :: 0 :: 6 :: t_Ru_seek_189
abbrev t_Ru_seek_185 : List UInt8 := 148 :: t_Ru_seek_186
abbrev t_Ru_seek_184 : List UInt8 := 9 :: t_Ru_seek_185
abbrev t_Ru_seek_183 : List UInt8 := 47 :: t_Ru_seek_184
abbrev t_Ru_seek_181 : List UInt8 := 21 :: 4 :: t_Ru_seek_183
abbrev t_Ru_seek_178 : List UInt8 := 180 :: 0 :: 38 :: t_Ru_seek_181
abbrev t_Ru_seek_177 : List UInt8 := 42 :: t_Ru_seek_178
abbrev t_Ru_seek_174 : List UInt8 := 160 :: 0 :: 15 :: t_Ru_seek_177
abbrev t_Ru_seek_172 : List UInt8 := 16 :: 22 :: t_Ru_seek_174
abbrev t_Ru_seek_170 : List UInt8 := 21 :: 5 :: t_Ru_seek_172
abbrev t_Ru_seek_167 : List UInt8 := 153 :: 0 :: 25 :: t_Ru_seek_170
abbrev t_Ru_seek_166 : List UInt8 := 28 :: t_Ru_seek_167
abbrev t_Ru_seek_163 : List UInt8 := 159 :: 0 :: 26 :: t_Ru_seek_166
abbrev t_Ru_seek_161 : List UInt8 := 16 :: 16 :: t_Ru_seek_163
abbrev t_Ru_seek_159 : List UInt8 := 21 :: 5 :: t_Ru_seek_161
abbrev t_Ru_seek_156 : List UInt8 := 167 :: 255 :: 214 :: t_Ru_seek_159
abbrev t_Ru_seek_153 : List UInt8 := 132 :: 8 :: 1 :: t_Ru_seek_156
abbrev t_Ru_seek_151 : List UInt8 := 54 :: 6 :: t_Ru_seek_153
abbrev t_Ru_seek_150 : List UInt8 := 46 :: t_Ru_seek_151
abbrev t_Ru_seek_148 : List UInt8 := 21 :: 6 :: t_Ru_seek_150
abbrev t_Ru_seek_145 : List UInt8 := 180 :: 0 :: 29 :: t_Ru_seek_148
abbrev t_Ru_seek_144 : List UInt8 := 42 :: t_Ru_seek_145
abbrev t_Ru_seek_142 : List UInt8 := 54 :: 7 :: t_Ru_seek_144
abbrev t_Ru_seek_139 : List UInt8 := 182 :: 0 :: 212 :: t_Ru_seek_142
abbrev t_Ru_seek_138 : List UInt8 := 96 :: t_Ru_seek_139
abbrev t_Ru_seek_137 : List UInt8 := 4 :: t_Ru_seek_138
abbrev t_Ru_seek_136 : List UInt8 := 29 :: t_Ru_seek_137
abbrev t_Ru_seek_135 : List UInt8 := 28 :: t_Ru_seek_136
abbrev t_Ru_seek_133 : List UInt8 := 21 :: 6 :: t_Ru_seek_135
abbrev t_Ru_seek_132 : List UInt8 := 42 :: t_Ru_seek_133
abbrev t_Ru_seek_129 : List UInt8 := 156 :: 0 :: 30 :: t_Ru_seek_132
abbrev t_Ru_seek_127 : List UInt8 := 21 :: 7 :: t_Ru_seek_129
abbrev t_Ru_seek_124 : List UInt8 := 155 :: 0 :: 35 :: t_Ru_seek_127
abbrev t_Ru_seek_122 : List UInt8 := 21 :: 6 :: t_Ru_seek_124
abbrev t_Ru_seek_119 : List UInt8 := 163 :: 0 :: 40 :: t_Ru_seek_122
abbrev t_Ru_seek_116 : List UInt8 := 17 :: 1 :: 244 :: t_Ru_seek_119
abbrev t_Ru_seek_114 : List UInt8 := 21 :: 8 :: t_Ru_seek_116
abbrev t_Ru_seek_112 : List UInt8 := 54 :: 8 :: t_Ru_seek_114
abbrev t_Ru_seek_111 : List UInt8 := 3 :: t_Ru_seek_112
abbrev t_Ru_seek_109 : List UInt8 := 54 :: 7 :: t_Ru_seek_111
abbrev t_Ru_seek_108 : List UInt8 := 2 :: t_Ru_seek_109
abbrev t_Ru_seek_106 : List UInt8 := 54 :: 6 :: t_Ru_seek_108
abbrev t_Ru_seek_105 : List UInt8 := 2 :: t_Ru_seek_106
abbrev t_Ru_seek_102 : List UInt8 := 167 :: 0 :: 4 :: t_Ru_seek_105
abbrev t_Ru_seek_101 : List UInt8 := 46 :: t_Ru_seek_102
abbrev t_Ru_seek_99 : List UInt8 := 21 :: 4 :: t_Ru_seek_101
abbrev t_Ru_seek_96 : List UInt8 := 180 :: 0 :: 26 :: t_Ru_seek_99
abbrev t_Ru_seek_95 : List UInt8 := 42 :: t_Ru_seek_96
abbrev t_Ru_seek_92 : List UInt8 := 160 :: 0 :: 13 :: t_Ru_seek_95
abbrev t_Ru_seek_90 : List UInt8 := 16 :: 16 :: t_Ru_seek_92
abbrev t_Ru_seek_88 : List UInt8 := 21 :: 5 :: t_Ru_seek_90
abbrev t_Ru_seek_86 : List UInt8 := 54 :: 5 :: t_Ru_seek_88
abbrev t_Ru_seek_85 : List UInt8 := 46 :: t_Ru_seek_86
abbrev t_Ru_seek_84 : List UInt8 := 46 :: t_Ru_seek_85
abbrev t_Ru_seek_82 : List UInt8 := 21 :: 4 :: t_Ru_seek_84
abbrev t_Ru_seek_79 : List UInt8 := 180 :: 0 :: 22 :: t_Ru_seek_82
abbrev t_Ru_seek_78 : List UInt8 := 42 :: t_Ru_seek_79
abbrev t_Ru_seek_75 : List UInt8 := 180 :: 0 :: 122 :: t_Ru_seek_78
abbrev t_Ru_seek_72 : List UInt8 := 180 :: 0 :: 12 :: t_Ru_seek_75
abbrev t_Ru_seek_71 : List UInt8 := 42 :: t_Ru_seek_72
abbrev t_Ru_seek_70 : List UInt8 := 172 :: t_Ru_seek_71
abbrev t_Ru_seek_67 : List UInt8 := 182 :: 0 :: 212 :: t_Ru_seek_70
abbrev t_Ru_seek_66 : List UInt8 := 96 :: t_Ru_seek_67
abbrev t_Ru_seek_65 : List UInt8 := 4 :: t_Ru_seek_66
abbrev t_Ru_seek_64 : List UInt8 := 29 :: t_Ru_seek_65
abbrev t_Ru_seek_63 : List UInt8 := 28 :: t_Ru_seek_64
abbrev t_Ru_seek_62 : List UInt8 := 46 :: t_Ru_seek_63
abbrev t_Ru_seek_60 : List UInt8 := 21 :: 4 :: t_Ru_seek_62
abbrev t_Ru_seek_57 : List UInt8 := 180 :: 0 :: 35 :: t_Ru_seek_60
abbrev t_Ru_seek_56 : List UInt8 := 42 :: t_Ru_seek_57
abbrev t_Ru_seek_55 : List UInt8 := 42 :: t_Ru_seek_56
abbrev t_Ru_seek_52 : List UInt8 := 155 :: 0 :: 19 :: t_Ru_seek_55
abbrev t_Ru_seek_51 : List UInt8 := 46 :: t_Ru_seek_52
abbrev t_Ru_seek_49 : List UInt8 := 21 :: 4 :: t_Ru_seek_51
abbrev t_Ru_seek_46 : List UInt8 := 180 :: 0 :: 35 :: t_Ru_seek_49
abbrev t_Ru_seek_45 : List UInt8 := 42 :: t_Ru_seek_46
abbrev t_Ru_seek_44 : List UInt8 := 172 :: t_Ru_seek_45
abbrev t_Ru_seek_43 : List UInt8 := 2 :: t_Ru_seek_44
abbrev t_Ru_seek_40 : List UInt8 := 161 :: 0 :: 5 :: t_Ru_seek_43
abbrev t_Ru_seek_38 : List UInt8 := 16 :: 100 :: t_Ru_seek_40
abbrev t_Ru_seek_37 : List UInt8 := 29 :: t_Ru_seek_38
abbrev t_Ru_seek_34 : List UInt8 := 153 :: 0 :: 9 :: t_Ru_seek_37
abbrev t_Ru_seek_33 : List UInt8 := 46 :: t_Ru_seek_34
abbrev t_Ru_seek_31 : List UInt8 := 21 :: 4 :: t_Ru_seek_33
abbrev t_Ru_seek_28 : List UInt8 := 180 :: 0 :: 32 :: t_Ru_seek_31
abbrev t_Ru_seek_27 : List UInt8 := 42 :: t_Ru_seek_28
abbrev t_Ru_seek_24 : List UInt8 := 155 :: 0 :: 19 :: t_Ru_seek_27
abbrev t_Ru_seek_22 : List UInt8 := 21 :: 4 :: t_Ru_seek_24
abbrev t_Ru_seek_20 : List UInt8 := 54 :: 4 :: t_Ru_seek_22
abbrev t_Ru_seek_19 : List UInt8 := 2 :: t_Ru_seek_20
abbrev t_Ru_seek_16 : List UInt8 := 167 :: 0 :: 4 :: t_Ru_seek_19
abbrev t_Ru_seek_15 : List UInt8 := 46 :: t_Ru_seek_16
abbrev t_Ru_seek_14 : List UInt8 := 27 :: t_Ru_seek_15
abbrev t_Ru_seek_11 : List UInt8 := 180 :: 0 :: 35 :: t_Ru_seek_14
abbrev t_Ru_seek_10 : List UInt8 := 42 :: t_Ru_seek_11
abbrev t_Ru_seek_7 : List UInt8 := 160 :: 0 :: 12 :: t_Ru_seek_10
abbrev t_Ru_seek_6 : List UInt8 := 4 :: t_Ru_seek_7
abbrev t_Ru_seek_5 : List UInt8 := 46 :: t_Ru_seek_6
abbrev t_Ru_seek_4 : List UInt8 := 27 :: t_Ru_seek_5
abbrev t_Ru_seek_1 : List UInt8 := 180 :: 0 :: 32 :: t_Ru_seek_4
abbrev t_Ru_seek_0 : List UInt8 := 42 :: t_Ru_seek_1
theorem a_Ru_seek_0 : dk_at b_Ru_seek 0 t_Ru_seek_0 := dk_start (by decide +kernel)
theorem a_Ru_seek_1 : dk_at b_Ru_seek 1 t_Ru_seek_1 := dk_go 1 a_Ru_seek_0 rfl
theorem a_Ru_seek_4 : dk_at b_Ru_seek 4 t_Ru_seek_4 := dk_go 3 a_Ru_seek_1 rfl
theorem a_Ru_seek_5 : dk_at b_Ru_seek 5 t_Ru_seek_5 := dk_go 1 a_Ru_seek_4 rfl
theorem a_Ru_seek_6 : dk_at b_Ru_seek 6 t_Ru_seek_6 := dk_go 1 a_Ru_seek_5 rfl
theorem a_Ru_seek_7 : dk_at b_Ru_seek 7 t_Ru_seek_7 := dk_go 1 a_Ru_seek_6 rfl
theorem a_Ru_seek_10 : dk_at b_Ru_seek 10 t_Ru_seek_10 := dk_go 3 a_Ru_seek_7 rfl
theorem a_Ru_seek_11 : dk_at b_Ru_seek 11 t_Ru_seek_11 := dk_go 1 a_Ru_seek_10 rfl
theorem a_Ru_seek_14 : dk_at b_Ru_seek 14 t_Ru_seek_14 := dk_go 3 a_Ru_seek_11 rfl
theorem a_Ru_seek_15 : dk_at b_Ru_seek 15 t_Ru_seek_15 := dk_go 1 a_Ru_seek_14 rfl
theorem a_Ru_seek_16 : dk_at b_Ru_seek 16 t_Ru_seek_16 := dk_go 1 a_Ru_seek_15 rfl
theorem a_Ru_seek_19 : dk_at b_Ru_seek 19 t_Ru_seek_19 := dk_go 3 a_Ru_seek_16 rfl
theorem a_Ru_seek_20 : dk_at b_Ru_seek 20 t_Ru_seek_20 := dk_go 1 a_Ru_seek_19 rfl
theorem a_Ru_seek_22 : dk_at b_Ru_seek 22 t_Ru_seek_22 := dk_go 2 a_Ru_seek_20 rfl
theorem a_Ru_seek_24 : dk_at b_Ru_seek 24 t_Ru_seek_24 := dk_go 2 a_Ru_seek_22 rfl
theorem a_Ru_seek_27 : dk_at b_Ru_seek 27 t_Ru_seek_27 := dk_go 3 a_Ru_seek_24 rfl
theorem a_Ru_seek_28 : dk_at b_Ru_seek 28 t_Ru_seek_28 := dk_go 1 a_Ru_seek_27 rfl
theorem a_Ru_seek_31 : dk_at b_Ru_seek 31 t_Ru_seek_31 := dk_go 3 a_Ru_seek_28 rfl
theorem a_Ru_seek_33 : dk_at b_Ru_seek 33 t_Ru_seek_33 := dk_go 2 a_Ru_seek_31 rfl
theorem a_Ru_seek_34 : dk_at b_Ru_seek 34 t_Ru_seek_34 := dk_go 1 a_Ru_seek_33 rfl
theorem a_Ru_seek_37 : dk_at b_Ru_seek 37 t_Ru_seek_37 := dk_go 3 a_Ru_seek_34 rfl
theorem a_Ru_seek_38 : dk_at b_Ru_seek 38 t_Ru_seek_38 := dk_go 1 a_Ru_seek_37 rfl
theorem a_Ru_seek_40 : dk_at b_Ru_seek 40 t_Ru_seek_40 := dk_go 2 a_Ru_seek_38 rfl
theorem a_Ru_seek_43 : dk_at b_Ru_seek 43 t_Ru_seek_43 := dk_go 3 a_Ru_seek_40 rfl
theorem a_Ru_seek_44 : dk_at b_Ru_seek 44 t_Ru_seek_44 := dk_go 1 a_Ru_seek_43 rfl
theorem a_Ru_seek_45 : dk_at b_Ru_seek 45 t_Ru_seek_45 := dk_go 1 a_Ru_seek_44 rfl
theorem a_Ru_seek_46 : dk_at b_Ru_seek 46 t_Ru_seek_46 := dk_go 1 a_Ru_seek_45 rfl
theorem a_Ru_seek_49 : dk_at b_Ru_seek 49 t_Ru_seek_49 := dk_go 3 a_Ru_seek_46 rfl
theorem a_Ru_seek_51 : dk_at b_Ru_seek 51 t_Ru_seek_51 := dk_go 2 a_Ru_seek_49 rfl
theorem a_Ru_seek_52 : dk_at b_Ru_seek 52 t_Ru_seek_52 := dk_go 1 a_Ru_seek_51 rfl
theorem a_Ru_seek_55 : dk_at b_Ru_seek 55 t_Ru_seek_55 := dk_go 3 a_Ru_seek_52 rfl
theorem a_Ru_seek_56 : dk_at b_Ru_seek 56 t_Ru_seek_56 := dk_go 1 a_Ru_seek_55 rfl
theorem a_Ru_seek_57 : dk_at b_Ru_seek 57 t_Ru_seek_57 := dk_go 1 a_Ru_seek_56 rfl
theorem a_Ru_seek_60 : dk_at b_Ru_seek 60 t_Ru_seek_60 := dk_go 3 a_Ru_seek_57 rfl
theorem a_Ru_seek_62 : dk_at b_Ru_seek 62 t_Ru_seek_62 := dk_go 2 a_Ru_seek_60 rfl
theorem a_Ru_seek_63 : dk_at b_Ru_seek 63 t_Ru_seek_63 := dk_go 1 a_Ru_seek_62 rfl
theorem a_Ru_seek_64 : dk_at b_Ru_seek 64 t_Ru_seek_64 := dk_go 1 a_Ru_seek_63 rfl
theorem a_Ru_seek_65 : dk_at b_Ru_seek 65 t_Ru_seek_65 := dk_go 1 a_Ru_seek_64 rfl
theorem a_Ru_seek_66 : dk_at b_Ru_seek 66 t_Ru_seek_66 := dk_go 1 a_Ru_seek_65 rfl
theorem a_Ru_seek_67 : dk_at b_Ru_seek 67 t_Ru_seek_67 := dk_go 1 a_Ru_seek_66 rfl
theorem a_Ru_seek_70 : dk_at b_Ru_seek 70 t_Ru_seek_70 := dk_go 3 a_Ru_seek_67 rfl
theorem a_Ru_seek_71 : dk_at b_Ru_seek 71 t_Ru_seek_71 := dk_go 1 a_Ru_seek_70 rfl
theorem a_Ru_seek_72 : dk_at b_Ru_seek 72 t_Ru_seek_72 := dk_go 1 a_Ru_seek_71 rfl
theorem a_Ru_seek_75 : dk_at b_Ru_seek 75 t_Ru_seek_75 := dk_go 3 a_Ru_seek_72 rfl
theorem a_Ru_seek_78 : dk_at b_Ru_seek 78 t_Ru_seek_78 := dk_go 3 a_Ru_seek_75 rfl
theorem a_Ru_seek_79 : dk_at b_Ru_seek 79 t_Ru_seek_79 := dk_go 1 a_Ru_seek_78 rfl
theorem a_Ru_seek_82 : dk_at b_Ru_seek 82 t_Ru_seek_82 := dk_go 3 a_Ru_seek_79 rfl
theorem a_Ru_seek_84 : dk_at b_Ru_seek 84 t_Ru_seek_84 := dk_go 2 a_Ru_seek_82 rfl
theorem a_Ru_seek_85 : dk_at b_Ru_seek 85 t_Ru_seek_85 := dk_go 1 a_Ru_seek_84 rfl
theorem a_Ru_seek_86 : dk_at b_Ru_seek 86 t_Ru_seek_86 := dk_go 1 a_Ru_seek_85 rfl
theorem a_Ru_seek_88 : dk_at b_Ru_seek 88 t_Ru_seek_88 := dk_go 2 a_Ru_seek_86 rfl
theorem a_Ru_seek_90 : dk_at b_Ru_seek 90 t_Ru_seek_90 := dk_go 2 a_Ru_seek_88 rfl
theorem a_Ru_seek_92 : dk_at b_Ru_seek 92 t_Ru_seek_92 := dk_go 2 a_Ru_seek_90 rfl
theorem a_Ru_seek_95 : dk_at b_Ru_seek 95 t_Ru_seek_95 := dk_go 3 a_Ru_seek_92 rfl
theorem a_Ru_seek_96 : dk_at b_Ru_seek 96 t_Ru_seek_96 := dk_go 1 a_Ru_seek_95 rfl
theorem a_Ru_seek_99 : dk_at b_Ru_seek 99 t_Ru_seek_99 := dk_go 3 a_Ru_seek_96 rfl
theorem a_Ru_seek_101 : dk_at b_Ru_seek 101 t_Ru_seek_101 := dk_go 2 a_Ru_seek_99 rfl
theorem a_Ru_seek_102 : dk_at b_Ru_seek 102 t_Ru_seek_102 := dk_go 1 a_Ru_seek_101 rfl
theorem a_Ru_seek_105 : dk_at b_Ru_seek 105 t_Ru_seek_105 := dk_go 3 a_Ru_seek_102 rfl
theorem a_Ru_seek_106 : dk_at b_Ru_seek 106 t_Ru_seek_106 := dk_go 1 a_Ru_seek_105 rfl
theorem a_Ru_seek_108 : dk_at b_Ru_seek 108 t_Ru_seek_108 := dk_go 2 a_Ru_seek_106 rfl
theorem a_Ru_seek_109 : dk_at b_Ru_seek 109 t_Ru_seek_109 := dk_go 1 a_Ru_seek_108 rfl
theorem a_Ru_seek_111 : dk_at b_Ru_seek 111 t_Ru_seek_111 := dk_go 2 a_Ru_seek_109 rfl
theorem a_Ru_seek_112 : dk_at b_Ru_seek 112 t_Ru_seek_112 := dk_go 1 a_Ru_seek_111 rfl
theorem a_Ru_seek_114 : dk_at b_Ru_seek 114 t_Ru_seek_114 := dk_go 2 a_Ru_seek_112 rfl
theorem a_Ru_seek_116 : dk_at b_Ru_seek 116 t_Ru_seek_116 := dk_go 2 a_Ru_seek_114 rfl
theorem a_Ru_seek_119 : dk_at b_Ru_seek 119 t_Ru_seek_119 := dk_go 3 a_Ru_seek_116 rfl
theorem a_Ru_seek_122 : dk_at b_Ru_seek 122 t_Ru_seek_122 := dk_go 3 a_Ru_seek_119 rfl
theorem a_Ru_seek_124 : dk_at b_Ru_seek 124 t_Ru_seek_124 := dk_go 2 a_Ru_seek_122 rfl
theorem a_Ru_seek_127 : dk_at b_Ru_seek 127 t_Ru_seek_127 := dk_go 3 a_Ru_seek_124 rfl
theorem a_Ru_seek_129 : dk_at b_Ru_seek 129 t_Ru_seek_129 := dk_go 2 a_Ru_seek_127 rfl
theorem a_Ru_seek_132 : dk_at b_Ru_seek 132 t_Ru_seek_132 := dk_go 3 a_Ru_seek_129 rfl
theorem a_Ru_seek_133 : dk_at b_Ru_seek 133 t_Ru_seek_133 := dk_go 1 a_Ru_seek_132 rfl
theorem a_Ru_seek_135 : dk_at b_Ru_seek 135 t_Ru_seek_135 := dk_go 2 a_Ru_seek_133 rfl
theorem a_Ru_seek_136 : dk_at b_Ru_seek 136 t_Ru_seek_136 := dk_go 1 a_Ru_seek_135 rfl
theorem a_Ru_seek_137 : dk_at b_Ru_seek 137 t_Ru_seek_137 := dk_go 1 a_Ru_seek_136 rfl
theorem a_Ru_seek_138 : dk_at b_Ru_seek 138 t_Ru_seek_138 := dk_go 1 a_Ru_seek_137 rfl
theorem a_Ru_seek_139 : dk_at b_Ru_seek 139 t_Ru_seek_139 := dk_go 1 a_Ru_seek_138 rfl
theorem a_Ru_seek_142 : dk_at b_Ru_seek 142 t_Ru_seek_142 := dk_go 3 a_Ru_seek_139 rfl
theorem a_Ru_seek_144 : dk_at b_Ru_seek 144 t_Ru_seek_144 := dk_go 2 a_Ru_seek_142 rfl
theorem a_Ru_seek_145 : dk_at b_Ru_seek 145 t_Ru_seek_145 := dk_go 1 a_Ru_seek_144 rfl
theorem a_Ru_seek_148 : dk_at b_Ru_seek 148 t_Ru_seek_148 := dk_go 3 a_Ru_seek_145 rfl
theorem a_Ru_seek_150 : dk_at b_Ru_seek 150 t_Ru_seek_150 := dk_go 2 a_Ru_seek_148 rfl
theorem a_Ru_seek_151 : dk_at b_Ru_seek 151 t_Ru_seek_151 := dk_go 1 a_Ru_seek_150 rfl
theorem a_Ru_seek_153 : dk_at b_Ru_seek 153 t_Ru_seek_153 := dk_go 2 a_Ru_seek_151 rfl
theorem a_Ru_seek_156 : dk_at b_Ru_seek 156 t_Ru_seek_156 := dk_go 3 a_Ru_seek_153 rfl
theorem a_Ru_seek_159 : dk_at b_Ru_seek 159 t_Ru_seek_159 := dk_go 3 a_Ru_seek_156 rfl
theorem a_Ru_seek_161 : dk_at b_Ru_seek 161 t_Ru_seek_161 := dk_go 2 a_Ru_seek_159 rfl
theorem a_Ru_seek_163 : dk_at b_Ru_seek 163 t_Ru_seek_163 := dk_go 2 a_Ru_seek_161 rfl
theorem a_Ru_seek_166 : dk_at b_Ru_seek 166 t_Ru_seek_166 := dk_go 3 a_Ru_seek_163 rfl
theorem a_Ru_seek_167 : dk_at b_Ru_seek 167 t_Ru_seek_167 := dk_go 1 a_Ru_seek_166 rfl
theorem a_Ru_seek_170 : dk_at b_Ru_seek 170 t_Ru_seek_170 := dk_go 3 a_Ru_seek_167 rfl
theorem a_Ru_seek_172 : dk_at b_Ru_seek 172 t_Ru_seek_172 := dk_go 2 a_Ru_seek_170 rfl
theorem a_Ru_seek_174 : dk_at b_Ru_seek 174 t_Ru_seek_174 := dk_go 2 a_Ru_seek_172 rfl
theorem a_Ru_seek_177 : dk_at b_Ru_seek 177 t_Ru_seek_177 := dk_go 3 a_Ru_seek_174 rfl
theorem a_Ru_seek_178 : dk_at b_Ru_seek 178 t_Ru_seek_178 := dk_go 1 a_Ru_seek_177 rfl
theorem a_Ru_seek_181 : dk_at b_Ru_seek 181 t_Ru_seek_181 := dk_go 3 a_Ru_seek_178 rfl
theorem a_Ru_seek_183 : dk_at b_Ru_seek 183 t_Ru_seek_183 := dk_go 2 a_Ru_seek_181 rfl
theorem a_Ru_seek_184 : dk_at b_Ru_seek 184 t_Ru_seek_184 := dk_go 1 a_Ru_seek_183 rfl
theorem a_Ru_seek_185 : dk_at b_Ru_seek 185 t_Ru_seek_185 := dk_go 1 a_Ru_seek_184 rfl
theorem a_Ru_seek_186 : dk_at b_Ru_seek 186 t_Ru_seek_186 := dk_go 1 a_Ru_seek_185 rfl
theorem a_Ru_seek_189 : dk_at b_Ru_seek 189 t_Ru_seek_189 := dk_go 3 a_Ru_seek_186 rfl
theorem a_Ru_seek_191 : dk_at b_Ru_seek 191 t_Ru_seek_191 := dk_go 2 a_Ru_seek_189 rfl
theorem a_Ru_seek_192 : dk_at b_Ru_seek 192 t_Ru_seek_192 := dk_go 1 a_Ru_seek_191 rfl
theorem a_Ru_seek_193 : dk_at b_Ru_seek 193 t_Ru_seek_193 := dk_go 1 a_Ru_seek_192 rfl
theorem a_Ru_seek_194 : dk_at b_Ru_seek 194 t_Ru_seek_194 := dk_go 1 a_Ru_seek_193 rfl
theorem a_Ru_seek_197 : dk_at b_Ru_seek 197 t_Ru_seek_197 := dk_go 3 a_Ru_seek_194 rfl
theorem a_Ru_seek_198 : dk_at b_Ru_seek 198 t_Ru_seek_198 := dk_go 1 a_Ru_seek_197 rfl
theorem a_Ru_seek_199 : dk_at b_Ru_seek 199 t_Ru_seek_199 := dk_go 1 a_Ru_seek_198 rfl
theorem a_Ru_seek_202 : dk_at b_Ru_seek 202 t_Ru_seek_202 := dk_go 3 a_Ru_seek_199 rfl
theorem a_Ru_seek_203 : dk_at b_Ru_seek 203 t_Ru_seek_203 := dk_go 1 a_Ru_seek_202 rfl
theorem a_Ru_seek_206 : dk_at b_Ru_seek 206 t_Ru_seek_206 := dk_go 3 a_Ru_seek_203 rfl
theorem a_Ru_seek_209 : dk_at b_Ru_seek 209 t_Ru_seek_209 := dk_go 3 a_Ru_seek_206 rfl
theorem a_Ru_seek_211 : dk_at b_Ru_seek 211 t_Ru_seek_211 := dk_go 2 a_Ru_seek_209 rfl
theorem a_Ru_seek_214 : dk_at b_Ru_seek 214 t_Ru_seek_214 := dk_go 3 a_Ru_seek_211 rfl
theorem a_Ru_seek_215 : dk_at b_Ru_seek 215 t_Ru_seek_215 := dk_go 1 a_Ru_seek_214 rfl
theorem d_Ru_seek_0 : decode b_Ru_seek 0 = .ok (.aload_n 0, 1) := dk_0 a_Ru_seek_0 (dko_42 _)
theorem d_Ru_seek_1 : decode b_Ru_seek 1 = .ok (.getfield 32, 3) := dk_U2 a_Ru_seek_1 (dko_180 _) rfl
theorem d_Ru_seek_4 : decode b_Ru_seek 4 = .ok (.iload_n 1, 1) := dk_0 a_Ru_seek_4 (dko_27 _)
theorem d_Ru_seek_5 : decode b_Ru_seek 5 = .ok (.iaload, 1) := dk_0 a_Ru_seek_5 (dko_46 _)
theorem d_Ru_seek_6 : decode b_Ru_seek 6 = .ok (.iconst 1, 1) := dk_0 a_Ru_seek_6 (dko_4 _)
theorem d_Ru_seek_7 : decode b_Ru_seek 7 = .ok (.if_icmp .ne 12, 3) := dk_S2 a_Ru_seek_7 (dko_160 _) (by decide +kernel)
theorem d_Ru_seek_10 : decode b_Ru_seek 10 = .ok (.aload_n 0, 1) := dk_0 a_Ru_seek_10 (dko_42 _)
theorem d_Ru_seek_11 : decode b_Ru_seek 11 = .ok (.getfield 35, 3) := dk_U2 a_Ru_seek_11 (dko_180 _) rfl
theorem d_Ru_seek_14 : decode b_Ru_seek 14 = .ok (.iload_n 1, 1) := dk_0 a_Ru_seek_14 (dko_27 _)
theorem d_Ru_seek_15 : decode b_Ru_seek 15 = .ok (.iaload, 1) := dk_0 a_Ru_seek_15 (dko_46 _)
theorem d_Ru_seek_16 : decode b_Ru_seek 16 = .ok (.goto 4, 3) := dk_S2 a_Ru_seek_16 (dko_167 _) (by decide +kernel)
theorem d_Ru_seek_19 : decode b_Ru_seek 19 = .ok (.iconst (-1), 1) := dk_0 a_Ru_seek_19 (dko_2 _)
theorem d_Ru_seek_20 : decode b_Ru_seek 20 = .ok (.istore 4, 2) := dk_U1 a_Ru_seek_20 (dko_54 _) rfl
theorem d_Ru_seek_22 : decode b_Ru_seek 22 = .ok (.iload 4, 2) := dk_U1 a_Ru_seek_22 (dko_21 _) rfl
theorem d_Ru_seek_24 : decode b_Ru_seek 24 = .ok (.ifCond .lt 19, 3) := dk_S2 a_Ru_seek_24 (dko_155 _) (by decide +kernel)
theorem d_Ru_seek_27 : decode b_Ru_seek 27 = .ok (.aload_n 0, 1) := dk_0 a_Ru_seek_27 (dko_42 _)
theorem d_Ru_seek_28 : decode b_Ru_seek 28 = .ok (.getfield 32, 3) := dk_U2 a_Ru_seek_28 (dko_180 _) rfl
theorem d_Ru_seek_31 : decode b_Ru_seek 31 = .ok (.iload 4, 2) := dk_U1 a_Ru_seek_31 (dko_21 _) rfl
theorem d_Ru_seek_33 : decode b_Ru_seek 33 = .ok (.iaload, 1) := dk_0 a_Ru_seek_33 (dko_46 _)
theorem d_Ru_seek_34 : decode b_Ru_seek 34 = .ok (.ifCond .eq 9, 3) := dk_S2 a_Ru_seek_34 (dko_153 _) (by decide +kernel)
theorem d_Ru_seek_37 : decode b_Ru_seek 37 = .ok (.iload_n 3, 1) := dk_0 a_Ru_seek_37 (dko_29 _)
theorem d_Ru_seek_38 : decode b_Ru_seek 38 = .ok (.bipush 100, 2) := dk_S1 a_Ru_seek_38 (dko_16 _) (by decide +kernel)
theorem d_Ru_seek_40 : decode b_Ru_seek 40 = .ok (.if_icmp .lt 5, 3) := dk_S2 a_Ru_seek_40 (dko_161 _) (by decide +kernel)
theorem d_Ru_seek_43 : decode b_Ru_seek 43 = .ok (.iconst (-1), 1) := dk_0 a_Ru_seek_43 (dko_2 _)
theorem d_Ru_seek_44 : decode b_Ru_seek 44 = .ok (.ireturn, 1) := dk_0 a_Ru_seek_44 (dko_172 _)
theorem d_Ru_seek_45 : decode b_Ru_seek 45 = .ok (.aload_n 0, 1) := dk_0 a_Ru_seek_45 (dko_42 _)
theorem d_Ru_seek_46 : decode b_Ru_seek 46 = .ok (.getfield 35, 3) := dk_U2 a_Ru_seek_46 (dko_180 _) rfl
theorem d_Ru_seek_49 : decode b_Ru_seek 49 = .ok (.iload 4, 2) := dk_U1 a_Ru_seek_49 (dko_21 _) rfl
theorem d_Ru_seek_51 : decode b_Ru_seek 51 = .ok (.iaload, 1) := dk_0 a_Ru_seek_51 (dko_46 _)
theorem d_Ru_seek_52 : decode b_Ru_seek 52 = .ok (.ifCond .lt 19, 3) := dk_S2 a_Ru_seek_52 (dko_155 _) (by decide +kernel)
theorem d_Ru_seek_55 : decode b_Ru_seek 55 = .ok (.aload_n 0, 1) := dk_0 a_Ru_seek_55 (dko_42 _)
theorem d_Ru_seek_56 : decode b_Ru_seek 56 = .ok (.aload_n 0, 1) := dk_0 a_Ru_seek_56 (dko_42 _)
theorem d_Ru_seek_57 : decode b_Ru_seek 57 = .ok (.getfield 35, 3) := dk_U2 a_Ru_seek_57 (dko_180 _) rfl
theorem d_Ru_seek_60 : decode b_Ru_seek 60 = .ok (.iload 4, 2) := dk_U1 a_Ru_seek_60 (dko_21 _) rfl
theorem d_Ru_seek_62 : decode b_Ru_seek 62 = .ok (.iaload, 1) := dk_0 a_Ru_seek_62 (dko_46 _)
theorem d_Ru_seek_63 : decode b_Ru_seek 63 = .ok (.iload_n 2, 1) := dk_0 a_Ru_seek_63 (dko_28 _)
theorem d_Ru_seek_64 : decode b_Ru_seek 64 = .ok (.iload_n 3, 1) := dk_0 a_Ru_seek_64 (dko_29 _)
theorem d_Ru_seek_65 : decode b_Ru_seek 65 = .ok (.iconst 1, 1) := dk_0 a_Ru_seek_65 (dko_4 _)
theorem d_Ru_seek_66 : decode b_Ru_seek 66 = .ok (.iadd, 1) := dk_0 a_Ru_seek_66 (dko_96 _)
theorem d_Ru_seek_67 : decode b_Ru_seek 67 = .ok (.invokevirtual 212, 3) := dk_U2 a_Ru_seek_67 (dko_182 _) rfl
theorem d_Ru_seek_70 : decode b_Ru_seek 70 = .ok (.ireturn, 1) := dk_0 a_Ru_seek_70 (dko_172 _)
theorem d_Ru_seek_71 : decode b_Ru_seek 71 = .ok (.aload_n 0, 1) := dk_0 a_Ru_seek_71 (dko_42 _)
theorem d_Ru_seek_72 : decode b_Ru_seek 72 = .ok (.getfield 12, 3) := dk_U2 a_Ru_seek_72 (dko_180 _) rfl
theorem d_Ru_seek_75 : decode b_Ru_seek 75 = .ok (.getfield 122, 3) := dk_U2 a_Ru_seek_75 (dko_180 _) rfl
theorem d_Ru_seek_78 : decode b_Ru_seek 78 = .ok (.aload_n 0, 1) := dk_0 a_Ru_seek_78 (dko_42 _)
theorem d_Ru_seek_79 : decode b_Ru_seek 79 = .ok (.getfield 22, 3) := dk_U2 a_Ru_seek_79 (dko_180 _) rfl
theorem d_Ru_seek_82 : decode b_Ru_seek 82 = .ok (.iload 4, 2) := dk_U1 a_Ru_seek_82 (dko_21 _) rfl
theorem d_Ru_seek_84 : decode b_Ru_seek 84 = .ok (.iaload, 1) := dk_0 a_Ru_seek_84 (dko_46 _)
theorem d_Ru_seek_85 : decode b_Ru_seek 85 = .ok (.iaload, 1) := dk_0 a_Ru_seek_85 (dko_46 _)
theorem d_Ru_seek_86 : decode b_Ru_seek 86 = .ok (.istore 5, 2) := dk_U1 a_Ru_seek_86 (dko_54 _) rfl
theorem d_Ru_seek_88 : decode b_Ru_seek 88 = .ok (.iload 5, 2) := dk_U1 a_Ru_seek_88 (dko_21 _) rfl
theorem d_Ru_seek_90 : decode b_Ru_seek 90 = .ok (.bipush 16, 2) := dk_S1 a_Ru_seek_90 (dko_16 _) (by decide +kernel)
theorem d_Ru_seek_92 : decode b_Ru_seek 92 = .ok (.if_icmp .ne 13, 3) := dk_S2 a_Ru_seek_92 (dko_160 _) (by decide +kernel)
theorem d_Ru_seek_95 : decode b_Ru_seek 95 = .ok (.aload_n 0, 1) := dk_0 a_Ru_seek_95 (dko_42 _)
theorem d_Ru_seek_96 : decode b_Ru_seek 96 = .ok (.getfield 26, 3) := dk_U2 a_Ru_seek_96 (dko_180 _) rfl
theorem d_Ru_seek_99 : decode b_Ru_seek 99 = .ok (.iload 4, 2) := dk_U1 a_Ru_seek_99 (dko_21 _) rfl
theorem d_Ru_seek_101 : decode b_Ru_seek 101 = .ok (.iaload, 1) := dk_0 a_Ru_seek_101 (dko_46 _)
theorem d_Ru_seek_102 : decode b_Ru_seek 102 = .ok (.goto 4, 3) := dk_S2 a_Ru_seek_102 (dko_167 _) (by decide +kernel)
theorem d_Ru_seek_105 : decode b_Ru_seek 105 = .ok (.iconst (-1), 1) := dk_0 a_Ru_seek_105 (dko_2 _)
theorem d_Ru_seek_106 : decode b_Ru_seek 106 = .ok (.istore 6, 2) := dk_U1 a_Ru_seek_106 (dko_54 _) rfl
theorem d_Ru_seek_108 : decode b_Ru_seek 108 = .ok (.iconst (-1), 1) := dk_0 a_Ru_seek_108 (dko_2 _)
theorem d_Ru_seek_109 : decode b_Ru_seek 109 = .ok (.istore 7, 2) := dk_U1 a_Ru_seek_109 (dko_54 _) rfl
theorem d_Ru_seek_111 : decode b_Ru_seek 111 = .ok (.iconst 0, 1) := dk_0 a_Ru_seek_111 (dko_3 _)
theorem d_Ru_seek_112 : decode b_Ru_seek 112 = .ok (.istore 8, 2) := dk_U1 a_Ru_seek_112 (dko_54 _) rfl
theorem d_Ru_seek_114 : decode b_Ru_seek 114 = .ok (.iload 8, 2) := dk_U1 a_Ru_seek_114 (dko_21 _) rfl
theorem d_Ru_seek_116 : decode b_Ru_seek 116 = .ok (.sipush 500, 3) := dk_S2 a_Ru_seek_116 (dko_17 _) (by decide +kernel)
theorem d_Ru_seek_119 : decode b_Ru_seek 119 = .ok (.if_icmp .gt 40, 3) := dk_S2 a_Ru_seek_119 (dko_163 _) (by decide +kernel)
theorem d_Ru_seek_122 : decode b_Ru_seek 122 = .ok (.iload 6, 2) := dk_U1 a_Ru_seek_122 (dko_21 _) rfl
theorem d_Ru_seek_124 : decode b_Ru_seek 124 = .ok (.ifCond .lt 35, 3) := dk_S2 a_Ru_seek_124 (dko_155 _) (by decide +kernel)
theorem d_Ru_seek_127 : decode b_Ru_seek 127 = .ok (.iload 7, 2) := dk_U1 a_Ru_seek_127 (dko_21 _) rfl
theorem d_Ru_seek_129 : decode b_Ru_seek 129 = .ok (.ifCond .ge 30, 3) := dk_S2 a_Ru_seek_129 (dko_156 _) (by decide +kernel)
theorem d_Ru_seek_132 : decode b_Ru_seek 132 = .ok (.aload_n 0, 1) := dk_0 a_Ru_seek_132 (dko_42 _)
theorem d_Ru_seek_133 : decode b_Ru_seek 133 = .ok (.iload 6, 2) := dk_U1 a_Ru_seek_133 (dko_21 _) rfl
theorem d_Ru_seek_135 : decode b_Ru_seek 135 = .ok (.iload_n 2, 1) := dk_0 a_Ru_seek_135 (dko_28 _)
theorem d_Ru_seek_136 : decode b_Ru_seek 136 = .ok (.iload_n 3, 1) := dk_0 a_Ru_seek_136 (dko_29 _)
theorem d_Ru_seek_137 : decode b_Ru_seek 137 = .ok (.iconst 1, 1) := dk_0 a_Ru_seek_137 (dko_4 _)
theorem d_Ru_seek_138 : decode b_Ru_seek 138 = .ok (.iadd, 1) := dk_0 a_Ru_seek_138 (dko_96 _)
theorem d_Ru_seek_139 : decode b_Ru_seek 139 = .ok (.invokevirtual 212, 3) := dk_U2 a_Ru_seek_139 (dko_182 _) rfl
theorem d_Ru_seek_142 : decode b_Ru_seek 142 = .ok (.istore 7, 2) := dk_U1 a_Ru_seek_142 (dko_54 _) rfl
theorem d_Ru_seek_144 : decode b_Ru_seek 144 = .ok (.aload_n 0, 1) := dk_0 a_Ru_seek_144 (dko_42 _)
theorem d_Ru_seek_145 : decode b_Ru_seek 145 = .ok (.getfield 29, 3) := dk_U2 a_Ru_seek_145 (dko_180 _) rfl
theorem d_Ru_seek_148 : decode b_Ru_seek 148 = .ok (.iload 6, 2) := dk_U1 a_Ru_seek_148 (dko_21 _) rfl
theorem d_Ru_seek_150 : decode b_Ru_seek 150 = .ok (.iaload, 1) := dk_0 a_Ru_seek_150 (dko_46 _)
theorem d_Ru_seek_151 : decode b_Ru_seek 151 = .ok (.istore 6, 2) := dk_U1 a_Ru_seek_151 (dko_54 _) rfl
theorem d_Ru_seek_153 : decode b_Ru_seek 153 = .ok (.iinc 8 1, 3) := dk_US a_Ru_seek_153 (dko_132 _) (by decide +kernel)
theorem d_Ru_seek_156 : decode b_Ru_seek 156 = .ok (.goto (-42), 3) := dk_S2 a_Ru_seek_156 (dko_167 _) (by decide +kernel)
theorem d_Ru_seek_159 : decode b_Ru_seek 159 = .ok (.iload 5, 2) := dk_U1 a_Ru_seek_159 (dko_21 _) rfl
theorem d_Ru_seek_161 : decode b_Ru_seek 161 = .ok (.bipush 16, 2) := dk_S1 a_Ru_seek_161 (dko_16 _) (by decide +kernel)
theorem d_Ru_seek_163 : decode b_Ru_seek 163 = .ok (.if_icmp .eq 26, 3) := dk_S2 a_Ru_seek_163 (dko_159 _) (by decide +kernel)
theorem d_Ru_seek_166 : decode b_Ru_seek 166 = .ok (.iload_n 2, 1) := dk_0 a_Ru_seek_166 (dko_28 _)
theorem d_Ru_seek_167 : decode b_Ru_seek 167 = .ok (.ifCond .eq 25, 3) := dk_S2 a_Ru_seek_167 (dko_153 _) (by decide +kernel)
theorem d_Ru_seek_170 : decode b_Ru_seek 170 = .ok (.iload 5, 2) := dk_U1 a_Ru_seek_170 (dko_21 _) rfl
theorem d_Ru_seek_172 : decode b_Ru_seek 172 = .ok (.bipush 22, 2) := dk_S1 a_Ru_seek_172 (dko_16 _) (by decide +kernel)
theorem d_Ru_seek_174 : decode b_Ru_seek 174 = .ok (.if_icmp .ne 15, 3) := dk_S2 a_Ru_seek_174 (dko_160 _) (by decide +kernel)
theorem d_Ru_seek_177 : decode b_Ru_seek 177 = .ok (.aload_n 0, 1) := dk_0 a_Ru_seek_177 (dko_42 _)
theorem d_Ru_seek_178 : decode b_Ru_seek 178 = .ok (.getfield 38, 3) := dk_U2 a_Ru_seek_178 (dko_180 _) rfl
theorem d_Ru_seek_181 : decode b_Ru_seek 181 = .ok (.iload 4, 2) := dk_U1 a_Ru_seek_181 (dko_21 _) rfl
theorem d_Ru_seek_183 : decode b_Ru_seek 183 = .ok (.laload, 1) := dk_0 a_Ru_seek_183 (dko_47 _)
theorem d_Ru_seek_184 : decode b_Ru_seek 184 = .ok (.lconst 0, 1) := dk_0 a_Ru_seek_184 (dko_9 _)
theorem d_Ru_seek_185 : decode b_Ru_seek 185 = .ok (.lcmp, 1) := dk_0 a_Ru_seek_185 (dko_148 _)
theorem d_Ru_seek_186 : decode b_Ru_seek 186 = .ok (.ifCond .eq 6, 3) := dk_S2 a_Ru_seek_186 (dko_153 _) (by decide +kernel)
theorem d_Ru_seek_189 : decode b_Ru_seek 189 = .ok (.iload 7, 2) := dk_U1 a_Ru_seek_189 (dko_21 _) rfl
theorem d_Ru_seek_191 : decode b_Ru_seek 191 = .ok (.ireturn, 1) := dk_0 a_Ru_seek_191 (dko_172 _)
theorem d_Ru_seek_192 : decode b_Ru_seek 192 = .ok (.aload_n 0, 1) := dk_0 a_Ru_seek_192 (dko_42 _)
theorem d_Ru_seek_193 : decode b_Ru_seek 193 = .ok (.dup, 1) := dk_0 a_Ru_seek_193 (dko_89 _)
theorem d_Ru_seek_194 : decode b_Ru_seek 194 = .ok (.getfield 216, 3) := dk_U2 a_Ru_seek_194 (dko_180 _) rfl
theorem d_Ru_seek_197 : decode b_Ru_seek 197 = .ok (.iconst 1, 1) := dk_0 a_Ru_seek_197 (dko_4 _)
theorem d_Ru_seek_198 : decode b_Ru_seek 198 = .ok (.isub, 1) := dk_0 a_Ru_seek_198 (dko_100 _)
theorem d_Ru_seek_199 : decode b_Ru_seek 199 = .ok (.putfield 216, 3) := dk_U2 a_Ru_seek_199 (dko_181 _) rfl
theorem d_Ru_seek_202 : decode b_Ru_seek 202 = .ok (.aload_n 0, 1) := dk_0 a_Ru_seek_202 (dko_42 _)
theorem d_Ru_seek_203 : decode b_Ru_seek 203 = .ok (.getfield 216, 3) := dk_U2 a_Ru_seek_203 (dko_180 _) rfl
theorem d_Ru_seek_206 : decode b_Ru_seek 206 = .ok (.ifCond .ge 8, 3) := dk_S2 a_Ru_seek_206 (dko_156 _) (by decide +kernel)
theorem d_Ru_seek_209 : decode b_Ru_seek 209 = .ok (.iload 4, 2) := dk_U1 a_Ru_seek_209 (dko_21 _) rfl
theorem d_Ru_seek_211 : decode b_Ru_seek 211 = .ok (.goto 4, 3) := dk_S2 a_Ru_seek_211 (dko_167 _) (by decide +kernel)
theorem d_Ru_seek_214 : decode b_Ru_seek 214 = .ok (.iconst (-1), 1) := dk_0 a_Ru_seek_214 (dko_2 _)
theorem d_Ru_seek_215 : decode b_Ru_seek 215 = .ok (.ireturn, 1) := dk_0 a_Ru_seek_215 (dko_172 _)
set_option maxHeartbeats 4000000 in
set_option maxRecDepth 100000 in
theorem ok_Ru_seek (pc : Nat) : OpS mt mi_Ru_seek pc (cs_Ru_seek pc) := (os_n (os_n (os_n (os_n (os_n (os_n (os_l (so_aload_n d_Ru_seek_0 rfl)) (os_n (os_l (so_get (C := R_Ru) (T := F_Ru) (N := 21) (j := 9) in_Ru rfl (by decide) mw_522 d_Ru_seek_1)) (os_l (so_iload_n d_Ru_seek_4 rfl)))) (os_n (os_n (os_l (so_iaload d_Ru_seek_5)) (os_l (so_iconst d_Ru_seek_6 (by decide)))) (os_n (os_l (so_icne d_Ru_seek_7 (by decide))) (os_l (so_aload_n d_Ru_seek_10 rfl))))) (os_n (os_n (os_l (so_get (C := R_Ru) (T := F_Ru) (N := 21) (j := 10) in_Ru rfl (by decide) mw_523 d_Ru_seek_11)) (os_n (os_l (so_iload_n d_Ru_seek_14 rfl)) (os_l (so_iaload d_Ru_seek_15)))) (os_n (os_n (os_l (so_goto d_Ru_seek_16 (by decide))) (os_l (so_iconst d_Ru_seek_19 (by decide)))) (os_n (os_l (so_istore d_Ru_seek_20 (by decide))) (os_l (so_iload d_Ru_seek_22)))))) (os_n (os_n (os_n (os_l (so_iflt d_Ru_seek_24 (by decide))) (os_n (os_l (so_aload_n d_Ru_seek_27 rfl)) (os_l (so_get (C := R_Ru) (T := F_Ru) (N := 21) (j := 9) in_Ru rfl (by decide) mw_522 d_Ru_seek_28)))) (os_n (os_n (os_l (so_iload d_Ru_seek_31)) (os_l (so_iaload d_Ru_seek_33))) (os_n (os_l (so_ifeq d_Ru_seek_34 (by decide))) (os_l (so_iload_n d_Ru_seek_37 rfl))))) (os_n (os_n (os_n (os_l (so_bipush d_Ru_seek_38 (by decide))) (os_l (so_iclt d_Ru_seek_40 (by decide)))) (os_n (os_l (so_iconst d_Ru_seek_43 (by decide))) (os_l (so_ireturn rfl d_Ru_seek_44)))) (os_n (os_n (os_l (so_aload_n d_Ru_seek_45 rfl)) (os_l (so_get (C := R_Ru) (T := F_Ru) (N := 21) (j := 10) in_Ru rfl (by decide) mw_523 d_Ru_seek_46))) (os_n (os_l (so_iload d_Ru_seek_49)) (os_l (so_iaload d_Ru_seek_51))))))) (os_n (os_n (os_n (os_n (os_l (so_iflt d_Ru_seek_52 (by decide))) (os_n (os_l (so_aload_n d_Ru_seek_55 rfl)) (os_l (so_aload_n d_Ru_seek_56 rfl)))) (os_n (os_n (os_l (so_get (C := R_Ru) (T := F_Ru) (N := 21) (j := 10) in_Ru rfl (by decide) mw_523 d_Ru_seek_57)) (os_l (so_iload d_Ru_seek_60))) (os_n (os_l (so_iaload d_Ru_seek_62)) (os_l (so_iload_n d_Ru_seek_63 rfl))))) (os_n (os_n (os_l (so_iload_n d_Ru_seek_64 rfl)) (os_n (os_l (so_iconst d_Ru_seek_65 (by decide))) (os_l (so_iadd d_Ru_seek_66)))) (os_n (os_n (os_l (so_callV (iv := mi_Ru_seek) rfl rfl rfl mw_1476 mw_1478 sl_88 mw_11 mw_1479 ⟨by decide +kernel, by decide +kernel, by decide +kernel⟩ (by decide) d_Ru_seek_67)) (os_l (so_ireturn rfl d_Ru_seek_70))) (os_n (os_l (so_aload_n d_Ru_seek_71 rfl)) (os_l (so_get (C := R_Ru) (T := F_Ru) (N := 21) (j := 3) in_Ru rfl (by decide) mw_514 d_Ru_seek_72)))))) (os_n (os_n (os_n (os_l (so_get (C := R_Pr) (T := F_Pr) (N := 18) (j := 3) in_Pr rfl (by decide) mw_438 d_Ru_seek_75)) (os_n (os_l (so_aload_n d_Ru_seek_78 rfl)) (os_l (so_get (C := R_Ru) (T := F_Ru) (N := 21) (j := 6) in_Ru rfl (by decide) mw_519 d_Ru_seek_79)))) (os_n (os_n (os_l (so_iload d_Ru_seek_82)) (os_l (so_iaload d_Ru_seek_84))) (os_n (os_l (so_iaload d_Ru_seek_85)) (os_l (so_istore d_Ru_seek_86 (by decide)))))) (os_n (os_n (os_n (os_l (so_iload d_Ru_seek_88)) (os_l (so_bipush d_Ru_seek_90 (by decide)))) (os_n (os_l (so_icne d_Ru_seek_92 (by decide))) (os_l (so_aload_n d_Ru_seek_95 rfl)))) (os_n (os_n (os_l (so_get (C := R_Ru) (T := F_Ru) (N := 21) (j := 7) in_Ru rfl (by decide) mw_520 d_Ru_seek_96)) (os_l (so_iload d_Ru_seek_99))) (os_n (os_l (so_iaload d_Ru_seek_101)) (os_l (so_goto d_Ru_seek_102 (by decide))))))))) (os_n (os_n (os_n (os_n (os_n (os_l (so_iconst d_Ru_seek_105 (by decide))) (os_n (os_l (so_istore d_Ru_seek_106 (by decide))) (os_l (so_iconst d_Ru_seek_108 (by decide))))) (os_n (os_n (os_l (so_istore d_Ru_seek_109 (by decide))) (os_l (so_iconst d_Ru_seek_111 (by decide)))) (os_n (os_l (so_istore d_Ru_seek_112 (by decide))) (os_l (so_iload d_Ru_seek_114))))) (os_n (os_n (os_l (so_sipush d_Ru_seek_116 (by decide))) (os_n (os_l (so_icgt d_Ru_seek_119 (by decide))) (os_l (so_iload d_Ru_seek_122)))) (os_n (os_n (os_l (so_iflt d_Ru_seek_124 (by decide))) (os_l (so_iload d_Ru_seek_127))) (os_n (os_l (so_ifge d_Ru_seek_129 (by decide))) (os_l (so_aload_n d_Ru_seek_132 rfl)))))) (os_n (os_n (os_n (os_l (so_iload d_Ru_seek_133)) (os_n (os_l (so_iload_n d_Ru_seek_135 rfl)) (os_l (so_iload_n d_Ru_seek_136 rfl)))) (os_n (os_n (os_l (so_iconst d_Ru_seek_137 (by decide))) (os_l (so_iadd d_Ru_seek_138))) (os_n (os_l (so_callV (iv := mi_Ru_seek) rfl rfl rfl mw_1476 mw_1478 sl_88 mw_11 mw_1479 ⟨by decide +kernel, by decide +kernel, by decide +kernel⟩ (by decide) d_Ru_seek_139)) (os_l (so_istore d_Ru_seek_142 (by decide)))))) (os_n (os_n (os_n (os_l (so_aload_n d_Ru_seek_144 rfl)) (os_l (so_get (C := R_Ru) (T := F_Ru) (N := 21) (j := 8) in_Ru rfl (by decide) mw_521 d_Ru_seek_145))) (os_n (os_l (so_iload d_Ru_seek_148)) (os_l (so_iaload d_Ru_seek_150)))) (os_n (os_n (os_l (so_istore d_Ru_seek_151 (by decide))) (os_l (so_iinc d_Ru_seek_153 (by decide) (by decide)))) (os_n (os_l (so_goto d_Ru_seek_156 (by decide))) (os_l (so_iload d_Ru_seek_159))))))) (os_n (os_n (os_n (os_n (os_l (so_bipush d_Ru_seek_161 (by decide))) (os_n (os_l (so_iceq d_Ru_seek_163 (by decide))) (os_l (so_iload_n d_Ru_seek_166 rfl)))) (os_n (os_n (os_l (so_ifeq d_Ru_seek_167 (by decide))) (os_l (so_iload d_Ru_seek_170))) (os_n (os_l (so_bipush d_Ru_seek_172 (by decide))) (os_l (so_icne d_Ru_seek_174 (by decide)))))) (os_n (os_n (os_l (so_aload_n d_Ru_seek_177 rfl)) (os_n (os_l (so_get (C := R_Ru) (T := F_Ru) (N := 21) (j := 11) in_Ru rfl (by decide) mw_524 d_Ru_seek_178)) (os_l (so_iload d_Ru_seek_181)))) (os_n (os_n (os_l (so_laload d_Ru_seek_183)) (os_l (so_lconst d_Ru_seek_184 (by decide)))) (os_n (os_l (so_lcmp d_Ru_seek_185)) (os_l (so_ifeq d_Ru_seek_186 (by decide))))))) (os_n (os_n (os_n (os_l (so_iload d_Ru_seek_189)) (os_n (os_l (so_ireturn rfl d_Ru_seek_191)) (os_l (so_aload_n d_Ru_seek_192 rfl)))) (os_n (os_n (os_l (so_dup d_Ru_seek_193)) (os_l (so_get (C := R_Ru) (T := F_Ru) (N := 21) (j := 15) in_Ru rfl (by decide) mw_528 d_Ru_seek_194))) (os_n (os_l (so_iconst d_Ru_seek_197 (by decide))) (os_l (so_isub d_Ru_seek_198))))) (os_n (os_n (os_n (os_l (so_putI (C := R_Ru) (T := F_Ru) (N := 21) (j := 15) in_Ru t_Ru_ok n_Ru rfl (by decide) mw_528 rfl (by decide +kernel) d_Ru_seek_199)) (os_l (so_aload_n d_Ru_seek_202 rfl))) (os_n (os_l (so_get (C := R_Ru) (T := F_Ru) (N := 21) (j := 15) in_Ru rfl (by decide) mw_528 d_Ru_seek_203)) (os_l (so_ifge d_Ru_seek_206 (by decide))))) (os_n (os_n (os_l (so_iload d_Ru_seek_209)) (os_l (so_goto d_Ru_seek_211 (by decide)))) (os_n (os_l (so_iconst d_Ru_seek_214 (by decide))) (os_l (so_ireturn rfl d_Ru_seek_215)))))))))
abbrev t_Ru_standingNode_42 : List UInt8 := 172 :: []
abbrev t_Ru_standingNode_41 : List UInt8 := 46 :: t_Ru_standingNode_42
abbrev t_Ru_standingNode_40 : List UInt8 := 28 :: t_Ru_standingNode_41
abbrev t_Ru_standingNode_37 : List UInt8 := 180 :: 0 :: 22 :: t_Ru_standingNode_40
abbrev t_Ru_standingNode_36 : List UInt8 := 42 :: t_Ru_standingNode_37
abbrev t_Ru_standingNode_33 : List UInt8 := 167 :: 0 :: 9 :: t_Ru_standingNode_36
abbrev t_Ru_standingNode_32 : List UInt8 := 2 :: t_Ru_standingNode_33
abbrev t_Ru_standingNode_29 : List UInt8 := 156 :: 0 :: 7 :: t_Ru_standingNode_32
abbrev t_Ru_standingNode_28 : List UInt8 := 28 :: t_Ru_standingNode_29
abbrev t_Ru_standingNode_27 : List UInt8 := 61 :: t_Ru_standingNode_28
abbrev t_Ru_standingNode_26 : List UInt8 := 2 :: t_Ru_standingNode_27
abbrev t_Ru_standingNode_23 : List UInt8 := 167 :: 0 :: 4 :: t_Ru_standingNode_26
abbrev t_Ru_standingNode_20 : List UInt8 := 182 :: 0 :: 212 :: t_Ru_standingNode_23
abbrev t_Ru_standingNode_19 : List UInt8 := 3 :: t_Ru_standingNode_20
abbrev t_Ru_standingNode_18 : List UInt8 := 3 :: t_Ru_standingNode_19
abbrev t_Ru_standingNode_17 : List UInt8 := 3 :: t_Ru_standingNode_18
abbrev t_Ru_standingNode_16 : List UInt8 := 42 :: t_Ru_standingNode_17
abbrev t_Ru_standingNode_13 : List UInt8 := 155 :: 0 :: 13 :: t_Ru_standingNode_16
abbrev t_Ru_standingNode_12 : List UInt8 := 27 :: t_Ru_standingNode_13
abbrev t_Ru_standingNode_9 : List UInt8 := 153 :: 0 :: 17 :: t_Ru_standingNode_12
abbrev t_Ru_standingNode_6 : List UInt8 := 182 :: 0 :: 219 :: t_Ru_standingNode_9
abbrev t_Ru_standingNode_5 : List UInt8 := 42 :: t_Ru_standingNode_6
abbrev t_Ru_standingNode_2 : List UInt8 := 181 :: 0 :: 216 :: t_Ru_standingNode_5
abbrev t_Ru_standingNode_1 : List UInt8 := 27 :: t_Ru_standingNode_2
abbrev t_Ru_standingNode_0 : List UInt8 := 42 :: t_Ru_standingNode_1
theorem a_Ru_standingNode_0 : dk_at b_Ru_standingNode 0 t_Ru_standingNode_0 := dk_start (by decide +kernel)
theorem a_Ru_standingNode_1 : dk_at b_Ru_standingNode 1 t_Ru_standingNode_1 := dk_go 1 a_Ru_standingNode_0 rfl
theorem a_Ru_standingNode_2 : dk_at b_Ru_standingNode 2 t_Ru_standingNode_2 := dk_go 1 a_Ru_standingNode_1 rfl
theorem a_Ru_standingNode_5 : dk_at b_Ru_standingNode 5 t_Ru_standingNode_5 := dk_go 3 a_Ru_standingNode_2 rfl
theorem a_Ru_standingNode_6 : dk_at b_Ru_standingNode 6 t_Ru_standingNode_6 := dk_go 1 a_Ru_standingNode_5 rfl
theorem a_Ru_standingNode_9 : dk_at b_Ru_standingNode 9 t_Ru_standingNode_9 := dk_go 3 a_Ru_standingNode_6 rfl
theorem a_Ru_standingNode_12 : dk_at b_Ru_standingNode 12 t_Ru_standingNode_12 := dk_go 3 a_Ru_standingNode_9 rfl
theorem a_Ru_standingNode_13 : dk_at b_Ru_standingNode 13 t_Ru_standingNode_13 := dk_go 1 a_Ru_standingNode_12 rfl
theorem a_Ru_standingNode_16 : dk_at b_Ru_standingNode 16 t_Ru_standingNode_16 := dk_go 3 a_Ru_standingNode_13 rfl
theorem a_Ru_standingNode_17 : dk_at b_Ru_standingNode 17 t_Ru_standingNode_17 := dk_go 1 a_Ru_standingNode_16 rfl
theorem a_Ru_standingNode_18 : dk_at b_Ru_standingNode 18 t_Ru_standingNode_18 := dk_go 1 a_Ru_standingNode_17 rfl
theorem a_Ru_standingNode_19 : dk_at b_Ru_standingNode 19 t_Ru_standingNode_19 := dk_go 1 a_Ru_standingNode_18 rfl
theorem a_Ru_standingNode_20 : dk_at b_Ru_standingNode 20 t_Ru_standingNode_20 := dk_go 1 a_Ru_standingNode_19 rfl
theorem a_Ru_standingNode_23 : dk_at b_Ru_standingNode 23 t_Ru_standingNode_23 := dk_go 3 a_Ru_standingNode_20 rfl
theorem a_Ru_standingNode_26 : dk_at b_Ru_standingNode 26 t_Ru_standingNode_26 := dk_go 3 a_Ru_standingNode_23 rfl
theorem a_Ru_standingNode_27 : dk_at b_Ru_standingNode 27 t_Ru_standingNode_27 := dk_go 1 a_Ru_standingNode_26 rfl
theorem a_Ru_standingNode_28 : dk_at b_Ru_standingNode 28 t_Ru_standingNode_28 := dk_go 1 a_Ru_standingNode_27 rfl
theorem a_Ru_standingNode_29 : dk_at b_Ru_standingNode 29 t_Ru_standingNode_29 := dk_go 1 a_Ru_standingNode_28 rfl
theorem a_Ru_standingNode_32 : dk_at b_Ru_standingNode 32 t_Ru_standingNode_32 := dk_go 3 a_Ru_standingNode_29 rfl
theorem a_Ru_standingNode_33 : dk_at b_Ru_standingNode 33 t_Ru_standingNode_33 := dk_go 1 a_Ru_standingNode_32 rfl
theorem a_Ru_standingNode_36 : dk_at b_Ru_standingNode 36 t_Ru_standingNode_36 := dk_go 3 a_Ru_standingNode_33 rfl
theorem a_Ru_standingNode_37 : dk_at b_Ru_standingNode 37 t_Ru_standingNode_37 := dk_go 1 a_Ru_standingNode_36 rfl
theorem a_Ru_standingNode_40 : dk_at b_Ru_standingNode 40 t_Ru_standingNode_40 := dk_go 3 a_Ru_standingNode_37 rfl
theorem a_Ru_standingNode_41 : dk_at b_Ru_standingNode 41 t_Ru_standingNode_41 := dk_go 1 a_Ru_standingNode_40 rfl
theorem a_Ru_standingNode_42 : dk_at b_Ru_standingNode 42 t_Ru_standingNode_42 := dk_go 1 a_Ru_standingNode_41 rfl
theorem d_Ru_standingNode_0 : decode b_Ru_standingNode 0 = .ok (.aload_n 0, 1) := dk_0 a_Ru_standingNode_0 (dko_42 _)
theorem d_Ru_standingNode_1 : decode b_Ru_standingNode 1 = .ok (.iload_n 1, 1) := dk_0 a_Ru_standingNode_1 (dko_27 _)
theorem d_Ru_standingNode_2 : decode b_Ru_standingNode 2 = .ok (.putfield 216, 3) := dk_U2 a_Ru_standingNode_2 (dko_181 _) rfl
theorem d_Ru_standingNode_5 : decode b_Ru_standingNode 5 = .ok (.aload_n 0, 1) := dk_0 a_Ru_standingNode_5 (dko_42 _)
theorem d_Ru_standingNode_6 : decode b_Ru_standingNode 6 = .ok (.invokevirtual 219, 3) := dk_U2 a_Ru_standingNode_6 (dko_182 _) rfl
theorem d_Ru_standingNode_9 : decode b_Ru_standingNode 9 = .ok (.ifCond .eq 17, 3) := dk_S2 a_Ru_standingNode_9 (dko_153 _) (by decide +kernel)
theorem d_Ru_standingNode_12 : decode b_Ru_standingNode 12 = .ok (.iload_n 1, 1) := dk_0 a_Ru_standingNode_12 (dko_27 _)
theorem d_Ru_standingNode_13 : decode b_Ru_standingNode 13 = .ok (.ifCond .lt 13, 3) := dk_S2 a_Ru_standingNode_13 (dko_155 _) (by decide +kernel)
theorem d_Ru_standingNode_16 : decode b_Ru_standingNode 16 = .ok (.aload_n 0, 1) := dk_0 a_Ru_standingNode_16 (dko_42 _)
theorem d_Ru_standingNode_17 : decode b_Ru_standingNode 17 = .ok (.iconst 0, 1) := dk_0 a_Ru_standingNode_17 (dko_3 _)
theorem d_Ru_standingNode_18 : decode b_Ru_standingNode 18 = .ok (.iconst 0, 1) := dk_0 a_Ru_standingNode_18 (dko_3 _)
theorem d_Ru_standingNode_19 : decode b_Ru_standingNode 19 = .ok (.iconst 0, 1) := dk_0 a_Ru_standingNode_19 (dko_3 _)
theorem d_Ru_standingNode_20 : decode b_Ru_standingNode 20 = .ok (.invokevirtual 212, 3) := dk_U2 a_Ru_standingNode_20 (dko_182 _) rfl
theorem d_Ru_standingNode_23 : decode b_Ru_standingNode 23 = .ok (.goto 4, 3) := dk_S2 a_Ru_standingNode_23 (dko_167 _) (by decide +kernel)
theorem d_Ru_standingNode_26 : decode b_Ru_standingNode 26 = .ok (.iconst (-1), 1) := dk_0 a_Ru_standingNode_26 (dko_2 _)
theorem d_Ru_standingNode_27 : decode b_Ru_standingNode 27 = .ok (.istore_n 2, 1) := dk_0 a_Ru_standingNode_27 (dko_61 _)
theorem d_Ru_standingNode_28 : decode b_Ru_standingNode 28 = .ok (.iload_n 2, 1) := dk_0 a_Ru_standingNode_28 (dko_28 _)
theorem d_Ru_standingNode_29 : decode b_Ru_standingNode 29 = .ok (.ifCond .ge 7, 3) := dk_S2 a_Ru_standingNode_29 (dko_156 _) (by decide +kernel)
theorem d_Ru_standingNode_32 : decode b_Ru_standingNode 32 = .ok (.iconst (-1), 1) := dk_0 a_Ru_standingNode_32 (dko_2 _)
theorem d_Ru_standingNode_33 : decode b_Ru_standingNode 33 = .ok (.goto 9, 3) := dk_S2 a_Ru_standingNode_33 (dko_167 _) (by decide +kernel)
theorem d_Ru_standingNode_36 : decode b_Ru_standingNode 36 = .ok (.aload_n 0, 1) := dk_0 a_Ru_standingNode_36 (dko_42 _)
theorem d_Ru_standingNode_37 : decode b_Ru_standingNode 37 = .ok (.getfield 22, 3) := dk_U2 a_Ru_standingNode_37 (dko_180 _) rfl
theorem d_Ru_standingNode_40 : decode b_Ru_standingNode 40 = .ok (.iload_n 2, 1) := dk_0 a_Ru_standingNode_40 (dko_28 _)
theorem d_Ru_standingNode_41 : decode b_Ru_standingNode 41 = .ok (.iaload, 1) := dk_0 a_Ru_standingNode_41 (dko_46 _)
theorem d_Ru_standingNode_42 : decode b_Ru_standingNode 42 = .ok (.ireturn, 1) := dk_0 a_Ru_standingNode_42 (dko_172 _)
set_option maxHeartbeats 4000000 in
set_option maxRecDepth 100000 in
theorem ok_Ru_standingNode (pc : Nat) : OpS mt mi_Ru_standingNode pc (cs_Ru_standingNode pc) := (os_n (os_n (os_n (os_n (os_l (so_aload_n d_Ru_standingNode_0 rfl)) (os_n (os_l (so_iload_n d_Ru_standingNode_1 rfl)) (os_l (so_putI (C := R_Ru) (T := F_Ru) (N := 21) (j := 15) in_Ru t_Ru_ok n_Ru rfl (by decide) mw_528 rfl (by decide +kernel) d_Ru_standingNode_2)))) (os_n (os_l (so_aload_n d_Ru_standingNode_5 rfl)) (os_n (os_l (so_callV (iv := mi_Ru_isAlive) rfl rfl rfl mw_1530 mw_1298 mw_1299 mw_11 mw_1300 ⟨by decide +kernel, by decide +kernel, by decide +kernel⟩ (by decide) d_Ru_standingNode_6)) (os_l (so_ifeq d_Ru_standingNode_9 (by decide)))))) (os_n (os_n (os_l (so_iload_n d_Ru_standingNode_12 rfl)) (os_n (os_l (so_iflt d_Ru_standingNode_13 (by decide))) (os_l (so_aload_n d_Ru_standingNode_16 rfl)))) (os_n (os_l (so_iconst d_Ru_standingNode_17 (by decide))) (os_n (os_l (so_iconst d_Ru_standingNode_18 (by decide))) (os_l (so_iconst d_Ru_standingNode_19 (by decide))))))) (os_n (os_n (os_n (os_l (so_callV (iv := mi_Ru_seek) rfl rfl rfl mw_1476 mw_1478 sl_88 mw_11 mw_1479 ⟨by decide +kernel, by decide +kernel, by decide +kernel⟩ (by decide) d_Ru_standingNode_20)) (os_n (os_l (so_goto d_Ru_standingNode_23 (by decide))) (os_l (so_iconst d_Ru_standingNode_26 (by decide))))) (os_n (os_l (so_istore_n d_Ru_standingNode_27 rfl (by decide))) (os_n (os_l (so_iload_n d_Ru_standingNode_28 rfl)) (os_l (so_ifge d_Ru_standingNode_29 (by decide)))))) (os_n (os_n (os_l (so_iconst d_Ru_standingNode_32 (by decide))) (os_n (os_l (so_goto d_Ru_standingNode_33 (by decide))) (os_l (so_aload_n d_Ru_standingNode_36 rfl)))) (os_n (os_n (os_l (so_get (C := R_Ru) (T := F_Ru) (N := 21) (j := 6) in_Ru rfl (by decide) mw_519 d_Ru_standingNode_37)) (os_l (so_iload_n d_Ru_standingNode_40 rfl))) (os_n (os_l (so_iaload d_Ru_standingNode_41)) (os_l (so_ireturn rfl d_Ru_standingNode_42)))))))
abbrev t_Ru_giveAnswer_49 : List UInt8 := 172 :: []
abbrev t_Ru_giveAnswer_48 : List UInt8 := 4 :: t_Ru_giveAnswer_49
abbrev t_Ru_giveAnswer_45 : List UInt8 := 182 :: 0 :: 183 :: t_Ru_giveAnswer_48
abbrev t_Ru_giveAnswer_44 : List UInt8 := 31 :: t_Ru_giveAnswer_45
abbrev t_Ru_giveAnswer_43 : List UInt8 := 46 :: t_Ru_giveAnswer_44
abbrev t_Ru_giveAnswer_42 : List UInt8 := 29 :: t_Ru_giveAnswer_43
abbrev t_Ru_giveAnswer_39 : List UInt8 := 180 :: 0 :: 22 :: t_Ru_giveAnswer_42
abbrev t_Ru_giveAnswer_38 : List UInt8 := 42 :: t_Ru_giveAnswer_39
abbrev t_Ru_giveAnswer_37 : List UInt8 := 42 :: t_Ru_giveAnswer_38
abbrev t_Ru_giveAnswer_36 : List UInt8 := 80 :: t_Ru_giveAnswer_37
abbrev t_Ru_giveAnswer_35 : List UInt8 := 10 :: t_Ru_giveAnswer_36
abbrev t_Ru_giveAnswer_34 : List UInt8 := 29 :: t_Ru_giveAnswer_35
abbrev t_Ru_giveAnswer_31 : List UInt8 := 180 :: 0 :: 38 :: t_Ru_giveAnswer_34
abbrev t_Ru_giveAnswer_30 : List UInt8 := 42 :: t_Ru_giveAnswer_31
abbrev t_Ru_giveAnswer_29 : List UInt8 := 172 :: t_Ru_giveAnswer_30
abbrev t_Ru_giveAnswer_28 : List UInt8 := 3 :: t_Ru_giveAnswer_29
abbrev t_Ru_giveAnswer_25 : List UInt8 := 156 :: 0 :: 5 :: t_Ru_giveAnswer_28
abbrev t_Ru_giveAnswer_24 : List UInt8 := 29 :: t_Ru_giveAnswer_25
abbrev t_Ru_giveAnswer_23 : List UInt8 := 62 :: t_Ru_giveAnswer_24
abbrev t_Ru_giveAnswer_22 : List UInt8 := 2 :: t_Ru_giveAnswer_23
abbrev t_Ru_giveAnswer_19 : List UInt8 := 167 :: 0 :: 4 :: t_Ru_giveAnswer_22
abbrev t_Ru_giveAnswer_16 : List UInt8 := 182 :: 0 :: 212 :: t_Ru_giveAnswer_19
abbrev t_Ru_giveAnswer_15 : List UInt8 := 3 :: t_Ru_giveAnswer_16
abbrev t_Ru_giveAnswer_14 : List UInt8 := 4 :: t_Ru_giveAnswer_15
abbrev t_Ru_giveAnswer_13 : List UInt8 := 3 :: t_Ru_giveAnswer_14
abbrev t_Ru_giveAnswer_12 : List UInt8 := 42 :: t_Ru_giveAnswer_13
abbrev t_Ru_giveAnswer_9 : List UInt8 := 154 :: 0 :: 13 :: t_Ru_giveAnswer_12
abbrev t_Ru_giveAnswer_6 : List UInt8 := 180 :: 0 :: 18 :: t_Ru_giveAnswer_9
abbrev t_Ru_giveAnswer_5 : List UInt8 := 42 :: t_Ru_giveAnswer_6
abbrev t_Ru_giveAnswer_2 : List UInt8 := 181 :: 0 :: 216 :: t_Ru_giveAnswer_5
abbrev t_Ru_giveAnswer_1 : List UInt8 := 3 :: t_Ru_giveAnswer_2
abbrev t_Ru_giveAnswer_0 : List UInt8 := 42 :: t_Ru_giveAnswer_1
theorem a_Ru_giveAnswer_0 : dk_at b_Ru_giveAnswer 0 t_Ru_giveAnswer_0 := dk_start (by decide +kernel)
theorem a_Ru_giveAnswer_1 : dk_at b_Ru_giveAnswer 1 t_Ru_giveAnswer_1 := dk_go 1 a_Ru_giveAnswer_0 rfl
theorem a_Ru_giveAnswer_2 : dk_at b_Ru_giveAnswer 2 t_Ru_giveAnswer_2 := dk_go 1 a_Ru_giveAnswer_1 rfl
theorem a_Ru_giveAnswer_5 : dk_at b_Ru_giveAnswer 5 t_Ru_giveAnswer_5 := dk_go 3 a_Ru_giveAnswer_2 rfl
theorem a_Ru_giveAnswer_6 : dk_at b_Ru_giveAnswer 6 t_Ru_giveAnswer_6 := dk_go 1 a_Ru_giveAnswer_5 rfl
theorem a_Ru_giveAnswer_9 : dk_at b_Ru_giveAnswer 9 t_Ru_giveAnswer_9 := dk_go 3 a_Ru_giveAnswer_6 rfl
theorem a_Ru_giveAnswer_12 : dk_at b_Ru_giveAnswer 12 t_Ru_giveAnswer_12 := dk_go 3 a_Ru_giveAnswer_9 rfl
theorem a_Ru_giveAnswer_13 : dk_at b_Ru_giveAnswer 13 t_Ru_giveAnswer_13 := dk_go 1 a_Ru_giveAnswer_12 rfl
theorem a_Ru_giveAnswer_14 : dk_at b_Ru_giveAnswer 14 t_Ru_giveAnswer_14 := dk_go 1 a_Ru_giveAnswer_13 rfl
theorem a_Ru_giveAnswer_15 : dk_at b_Ru_giveAnswer 15 t_Ru_giveAnswer_15 := dk_go 1 a_Ru_giveAnswer_14 rfl
theorem a_Ru_giveAnswer_16 : dk_at b_Ru_giveAnswer 16 t_Ru_giveAnswer_16 := dk_go 1 a_Ru_giveAnswer_15 rfl
theorem a_Ru_giveAnswer_19 : dk_at b_Ru_giveAnswer 19 t_Ru_giveAnswer_19 := dk_go 3 a_Ru_giveAnswer_16 rfl
theorem a_Ru_giveAnswer_22 : dk_at b_Ru_giveAnswer 22 t_Ru_giveAnswer_22 := dk_go 3 a_Ru_giveAnswer_19 rfl
theorem a_Ru_giveAnswer_23 : dk_at b_Ru_giveAnswer 23 t_Ru_giveAnswer_23 := dk_go 1 a_Ru_giveAnswer_22 rfl
theorem a_Ru_giveAnswer_24 : dk_at b_Ru_giveAnswer 24 t_Ru_giveAnswer_24 := dk_go 1 a_Ru_giveAnswer_23 rfl
theorem a_Ru_giveAnswer_25 : dk_at b_Ru_giveAnswer 25 t_Ru_giveAnswer_25 := dk_go 1 a_Ru_giveAnswer_24 rfl
theorem a_Ru_giveAnswer_28 : dk_at b_Ru_giveAnswer 28 t_Ru_giveAnswer_28 := dk_go 3 a_Ru_giveAnswer_25 rfl
theorem a_Ru_giveAnswer_29 : dk_at b_Ru_giveAnswer 29 t_Ru_giveAnswer_29 := dk_go 1 a_Ru_giveAnswer_28 rfl
theorem a_Ru_giveAnswer_30 : dk_at b_Ru_giveAnswer 30 t_Ru_giveAnswer_30 := dk_go 1 a_Ru_giveAnswer_29 rfl
theorem a_Ru_giveAnswer_31 : dk_at b_Ru_giveAnswer 31 t_Ru_giveAnswer_31 := dk_go 1 a_Ru_giveAnswer_30 rfl
theorem a_Ru_giveAnswer_34 : dk_at b_Ru_giveAnswer 34 t_Ru_giveAnswer_34 := dk_go 3 a_Ru_giveAnswer_31 rfl
theorem a_Ru_giveAnswer_35 : dk_at b_Ru_giveAnswer 35 t_Ru_giveAnswer_35 := dk_go 1 a_Ru_giveAnswer_34 rfl
theorem a_Ru_giveAnswer_36 : dk_at b_Ru_giveAnswer 36 t_Ru_giveAnswer_36 := dk_go 1 a_Ru_giveAnswer_35 rfl
theorem a_Ru_giveAnswer_37 : dk_at b_Ru_giveAnswer 37 t_Ru_giveAnswer_37 := dk_go 1 a_Ru_giveAnswer_36 rfl
theorem a_Ru_giveAnswer_38 : dk_at b_Ru_giveAnswer 38 t_Ru_giveAnswer_38 := dk_go 1 a_Ru_giveAnswer_37 rfl
theorem a_Ru_giveAnswer_39 : dk_at b_Ru_giveAnswer 39 t_Ru_giveAnswer_39 := dk_go 1 a_Ru_giveAnswer_38 rfl
theorem a_Ru_giveAnswer_42 : dk_at b_Ru_giveAnswer 42 t_Ru_giveAnswer_42 := dk_go 3 a_Ru_giveAnswer_39 rfl
theorem a_Ru_giveAnswer_43 : dk_at b_Ru_giveAnswer 43 t_Ru_giveAnswer_43 := dk_go 1 a_Ru_giveAnswer_42 rfl
theorem a_Ru_giveAnswer_44 : dk_at b_Ru_giveAnswer 44 t_Ru_giveAnswer_44 := dk_go 1 a_Ru_giveAnswer_43 rfl
theorem a_Ru_giveAnswer_45 : dk_at b_Ru_giveAnswer 45 t_Ru_giveAnswer_45 := dk_go 1 a_Ru_giveAnswer_44 rfl
theorem a_Ru_giveAnswer_48 : dk_at b_Ru_giveAnswer 48 t_Ru_giveAnswer_48 := dk_go 3 a_Ru_giveAnswer_45 rfl
theorem a_Ru_giveAnswer_49 : dk_at b_Ru_giveAnswer 49 t_Ru_giveAnswer_49 := dk_go 1 a_Ru_giveAnswer_48 rfl
theorem d_Ru_giveAnswer_0 : decode b_Ru_giveAnswer 0 = .ok (.aload_n 0, 1) := dk_0 a_Ru_giveAnswer_0 (dko_42 _)
theorem d_Ru_giveAnswer_1 : decode b_Ru_giveAnswer 1 = .ok (.iconst 0, 1) := dk_0 a_Ru_giveAnswer_1 (dko_3 _)
theorem d_Ru_giveAnswer_2 : decode b_Ru_giveAnswer 2 = .ok (.putfield 216, 3) := dk_U2 a_Ru_giveAnswer_2 (dko_181 _) rfl
theorem d_Ru_giveAnswer_5 : decode b_Ru_giveAnswer 5 = .ok (.aload_n 0, 1) := dk_0 a_Ru_giveAnswer_5 (dko_42 _)
theorem d_Ru_giveAnswer_6 : decode b_Ru_giveAnswer 6 = .ok (.getfield 18, 3) := dk_U2 a_Ru_giveAnswer_6 (dko_180 _) rfl
theorem d_Ru_giveAnswer_9 : decode b_Ru_giveAnswer 9 = .ok (.ifCond .ne 13, 3) := dk_S2 a_Ru_giveAnswer_9 (dko_154 _) (by decide +kernel)
theorem d_Ru_giveAnswer_12 : decode b_Ru_giveAnswer 12 = .ok (.aload_n 0, 1) := dk_0 a_Ru_giveAnswer_12 (dko_42 _)
theorem d_Ru_giveAnswer_13 : decode b_Ru_giveAnswer 13 = .ok (.iconst 0, 1) := dk_0 a_Ru_giveAnswer_13 (dko_3 _)
theorem d_Ru_giveAnswer_14 : decode b_Ru_giveAnswer 14 = .ok (.iconst 1, 1) := dk_0 a_Ru_giveAnswer_14 (dko_4 _)
theorem d_Ru_giveAnswer_15 : decode b_Ru_giveAnswer 15 = .ok (.iconst 0, 1) := dk_0 a_Ru_giveAnswer_15 (dko_3 _)
theorem d_Ru_giveAnswer_16 : decode b_Ru_giveAnswer 16 = .ok (.invokevirtual 212, 3) := dk_U2 a_Ru_giveAnswer_16 (dko_182 _) rfl
theorem d_Ru_giveAnswer_19 : decode b_Ru_giveAnswer 19 = .ok (.goto 4, 3) := dk_S2 a_Ru_giveAnswer_19 (dko_167 _) (by decide +kernel)
theorem d_Ru_giveAnswer_22 : decode b_Ru_giveAnswer 22 = .ok (.iconst (-1), 1) := dk_0 a_Ru_giveAnswer_22 (dko_2 _)
theorem d_Ru_giveAnswer_23 : decode b_Ru_giveAnswer 23 = .ok (.istore_n 3, 1) := dk_0 a_Ru_giveAnswer_23 (dko_62 _)
theorem d_Ru_giveAnswer_24 : decode b_Ru_giveAnswer 24 = .ok (.iload_n 3, 1) := dk_0 a_Ru_giveAnswer_24 (dko_29 _)
theorem d_Ru_giveAnswer_25 : decode b_Ru_giveAnswer 25 = .ok (.ifCond .ge 5, 3) := dk_S2 a_Ru_giveAnswer_25 (dko_156 _) (by decide +kernel)
theorem d_Ru_giveAnswer_28 : decode b_Ru_giveAnswer 28 = .ok (.iconst 0, 1) := dk_0 a_Ru_giveAnswer_28 (dko_3 _)
theorem d_Ru_giveAnswer_29 : decode b_Ru_giveAnswer 29 = .ok (.ireturn, 1) := dk_0 a_Ru_giveAnswer_29 (dko_172 _)
theorem d_Ru_giveAnswer_30 : decode b_Ru_giveAnswer 30 = .ok (.aload_n 0, 1) := dk_0 a_Ru_giveAnswer_30 (dko_42 _)
theorem d_Ru_giveAnswer_31 : decode b_Ru_giveAnswer 31 = .ok (.getfield 38, 3) := dk_U2 a_Ru_giveAnswer_31 (dko_180 _) rfl
theorem d_Ru_giveAnswer_34 : decode b_Ru_giveAnswer 34 = .ok (.iload_n 3, 1) := dk_0 a_Ru_giveAnswer_34 (dko_29 _)
theorem d_Ru_giveAnswer_35 : decode b_Ru_giveAnswer 35 = .ok (.lconst 1, 1) := dk_0 a_Ru_giveAnswer_35 (dko_10 _)
theorem d_Ru_giveAnswer_36 : decode b_Ru_giveAnswer 36 = .ok (.lastore, 1) := dk_0 a_Ru_giveAnswer_36 (dko_80 _)
theorem d_Ru_giveAnswer_37 : decode b_Ru_giveAnswer 37 = .ok (.aload_n 0, 1) := dk_0 a_Ru_giveAnswer_37 (dko_42 _)
theorem d_Ru_giveAnswer_38 : decode b_Ru_giveAnswer 38 = .ok (.aload_n 0, 1) := dk_0 a_Ru_giveAnswer_38 (dko_42 _)
theorem d_Ru_giveAnswer_39 : decode b_Ru_giveAnswer 39 = .ok (.getfield 22, 3) := dk_U2 a_Ru_giveAnswer_39 (dko_180 _) rfl
theorem d_Ru_giveAnswer_42 : decode b_Ru_giveAnswer 42 = .ok (.iload_n 3, 1) := dk_0 a_Ru_giveAnswer_42 (dko_29 _)
theorem d_Ru_giveAnswer_43 : decode b_Ru_giveAnswer 43 = .ok (.iaload, 1) := dk_0 a_Ru_giveAnswer_43 (dko_46 _)
theorem d_Ru_giveAnswer_44 : decode b_Ru_giveAnswer 44 = .ok (.lload_n 1, 1) := dk_0 a_Ru_giveAnswer_44 (dko_31 _)
theorem d_Ru_giveAnswer_45 : decode b_Ru_giveAnswer 45 = .ok (.invokevirtual 183, 3) := dk_U2 a_Ru_giveAnswer_45 (dko_182 _) rfl
theorem d_Ru_giveAnswer_48 : decode b_Ru_giveAnswer 48 = .ok (.iconst 1, 1) := dk_0 a_Ru_giveAnswer_48 (dko_4 _)
theorem d_Ru_giveAnswer_49 : decode b_Ru_giveAnswer 49 = .ok (.ireturn, 1) := dk_0 a_Ru_giveAnswer_49 (dko_172 _)
set_option maxHeartbeats 4000000 in
set_option maxRecDepth 100000 in
theorem ok_Ru_giveAnswer (pc : Nat) : OpS mt mi_Ru_giveAnswer pc (cs_Ru_giveAnswer pc) := (os_n (os_n (os_n (os_n (os_n (os_l (so_aload_n d_Ru_giveAnswer_0 rfl)) (os_l (so_iconst d_Ru_giveAnswer_1 (by decide)))) (os_n (os_l (so_putI (C := R_Ru) (T := F_Ru) (N := 21) (j := 15) in_Ru t_Ru_ok n_Ru rfl (by decide) mw_528 rfl (by decide +kernel) d_Ru_giveAnswer_2)) (os_l (so_aload_n d_Ru_giveAnswer_5 rfl)))) (os_n (os_n (os_l (so_get (C := R_Ru) (T := F_Ru) (N := 21) (j := 4) in_Ru rfl (by decide) mw_516 d_Ru_giveAnswer_6)) (os_l (so_ifne d_Ru_giveAnswer_9 (by decide)))) (os_n (os_l (so_aload_n d_Ru_giveAnswer_12 rfl)) (os_l (so_iconst d_Ru_giveAnswer_13 (by decide)))))) (os_n (os_n (os_n (os_l (so_iconst d_Ru_giveAnswer_14 (by decide))) (os_l (so_iconst d_Ru_giveAnswer_15 (by decide)))) (os_n (os_l (so_callV (iv := mi_Ru_seek) rfl rfl rfl mw_1476 mw_1478 sl_88 mw_11 mw_1479 ⟨by decide +kernel, by decide +kernel, by decide +kernel⟩ (by decide) d_Ru_giveAnswer_16)) (os_l (so_goto d_Ru_giveAnswer_19 (by decide))))) (os_n (os_n (os_l (so_iconst d_Ru_giveAnswer_22 (by decide))) (os_l (so_istore_n d_Ru_giveAnswer_23 rfl (by decide)))) (os_n (os_l (so_iload_n d_Ru_giveAnswer_24 rfl)) (os_l (so_ifge d_Ru_giveAnswer_25 (by decide))))))) (os_n (os_n (os_n (os_n (os_l (so_iconst d_Ru_giveAnswer_28 (by decide))) (os_l (so_zreturn rfl d_Ru_giveAnswer_29))) (os_n (os_l (so_aload_n d_Ru_giveAnswer_30 rfl)) (os_l (so_get (C := R_Ru) (T := F_Ru) (N := 21) (j := 11) in_Ru rfl (by decide) mw_524 d_Ru_giveAnswer_31)))) (os_n (os_n (os_l (so_iload_n d_Ru_giveAnswer_34 rfl)) (os_l (so_lconst d_Ru_giveAnswer_35 (by decide)))) (os_n (os_l (so_lastore d_Ru_giveAnswer_36)) (os_l (so_aload_n d_Ru_giveAnswer_37 rfl))))) (os_n (os_n (os_n (os_l (so_aload_n d_Ru_giveAnswer_38 rfl)) (os_l (so_get (C := R_Ru) (T := F_Ru) (N := 21) (j := 6) in_Ru rfl (by decide) mw_519 d_Ru_giveAnswer_39))) (os_n (os_l (so_iload_n d_Ru_giveAnswer_42 rfl)) (os_l (so_iaload d_Ru_giveAnswer_43)))) (os_n (os_n (os_l (so_lload_n d_Ru_giveAnswer_44 rfl)) (os_l (so_callV (iv := mi_Ru_setValue) rfl rfl rfl mw_1394 mw_1396 sl_75 mw_11 mw_1397 ⟨by decide +kernel, by decide +kernel, by decide +kernel⟩ (by decide) d_Ru_giveAnswer_45))) (os_n (os_l (so_iconst d_Ru_giveAnswer_48 (by decide))) (os_l (so_zreturn rfl d_Ru_giveAnswer_49)))))))
abbrev t_Sf_isSafe_137 : List UInt8 := 172 :: []
abbrev t_Sf_isSafe_136 : List UInt8 := 4 :: t_Sf_isSafe_137
abbrev t_Sf_isSafe_133 : List UInt8 := 167 :: 255 :: 180 :: t_Sf_isSafe_136
abbrev t_Sf_isSafe_130 : List UInt8 := 132 :: 2 :: 1 :: t_Sf_isSafe_133
abbrev t_Sf_isSafe_129 : List UInt8 := 60 :: t_Sf_isSafe_130
abbrev t_Sf_isSafe_128 : List UInt8 := 29 :: t_Sf_isSafe_129
abbrev t_Sf_isSafe_127 : List UInt8 := 172 :: t_Sf_isSafe_128
abbrev t_Sf_isSafe_126 : List UInt8 := 3 :: t_Sf_isSafe_127
abbrev t_Sf_isSafe_123 : List UInt8 := 181 :: 0 :: 33 :: t_Sf_isSafe_126
abbrev t_Sf_isSafe_122 : List UInt8 := 96 :: t_Sf_isSafe_123
abbrev t_Sf_isSafe_121 : List UInt8 := 28 :: t_Sf_isSafe_122
abbrev t_Sf_isSafe_120 : List UInt8 := 5 :: t_Sf_isSafe_121
abbrev t_Sf_isSafe_119 : List UInt8 := 42 :: t_Sf_isSafe_120
abbrev t_Sf_isSafe_116 : List UInt8 := 153 :: 0 :: 12 :: t_Sf_isSafe_119
abbrev t_Sf_isSafe_113 : List UInt8 := 182 :: 0 :: 57 :: t_Sf_isSafe_116
abbrev t_Sf_isSafe_112 : List UInt8 := 42 :: t_Sf_isSafe_113
abbrev t_Sf_isSafe_109 : List UInt8 := 182 :: 0 :: 53 :: t_Sf_isSafe_112
abbrev t_Sf_isSafe_108 : List UInt8 := 29 :: t_Sf_isSafe_109
abbrev t_Sf_isSafe_107 : List UInt8 := 108 :: t_Sf_isSafe_108
abbrev t_Sf_isSafe_105 : List UInt8 := 16 :: 10 :: t_Sf_isSafe_107
abbrev t_Sf_isSafe_104 : List UInt8 := 28 :: t_Sf_isSafe_105
abbrev t_Sf_isSafe_103 : List UInt8 := 42 :: t_Sf_isSafe_104
abbrev t_Sf_isSafe_100 : List UInt8 := 154 :: 0 :: 28 :: t_Sf_isSafe_103
abbrev t_Sf_isSafe_99 : List UInt8 := 112 :: t_Sf_isSafe_100
abbrev t_Sf_isSafe_97 : List UInt8 := 16 :: 10 :: t_Sf_isSafe_99
abbrev t_Sf_isSafe_96 : List UInt8 := 28 :: t_Sf_isSafe_97
abbrev t_Sf_isSafe_93 : List UInt8 := 160 :: 0 :: 10 :: t_Sf_isSafe_96
abbrev t_Sf_isSafe_92 : List UInt8 := 27 :: t_Sf_isSafe_93
abbrev t_Sf_isSafe_91 : List UInt8 := 29 :: t_Sf_isSafe_92
abbrev t_Sf_isSafe_88 : List UInt8 := 153 :: 0 :: 40 :: t_Sf_isSafe_91
abbrev t_Sf_isSafe_87 : List UInt8 := 29 :: t_Sf_isSafe_88
abbrev t_Sf_isSafe_86 : List UInt8 := 62 :: t_Sf_isSafe_87
abbrev t_Sf_isSafe_83 : List UInt8 := 182 :: 0 :: 71 :: t_Sf_isSafe_86
abbrev t_Sf_isSafe_82 : List UInt8 := 112 :: t_Sf_isSafe_83
abbrev t_Sf_isSafe_80 : List UInt8 := 16 :: 10 :: t_Sf_isSafe_82
abbrev t_Sf_isSafe_79 : List UInt8 := 28 :: t_Sf_isSafe_80
abbrev t_Sf_isSafe_78 : List UInt8 := 108 :: t_Sf_isSafe_79
abbrev t_Sf_isSafe_76 : List UInt8 := 16 :: 10 :: t_Sf_isSafe_78
abbrev t_Sf_isSafe_75 : List UInt8 := 28 :: t_Sf_isSafe_76
abbrev t_Sf_isSafe_74 : List UInt8 := 42 :: t_Sf_isSafe_75
abbrev t_Sf_isSafe_71 : List UInt8 := 162 :: 0 :: 65 :: t_Sf_isSafe_74
abbrev t_Sf_isSafe_70 : List UInt8 := 104 :: t_Sf_isSafe_71
abbrev t_Sf_isSafe_67 : List UInt8 := 180 :: 0 :: 66 :: t_Sf_isSafe_70
abbrev t_Sf_isSafe_64 : List UInt8 := 180 :: 0 :: 60 :: t_Sf_isSafe_67
abbrev t_Sf_isSafe_61 : List UInt8 := 180 :: 0 :: 25 :: t_Sf_isSafe_64
abbrev t_Sf_isSafe_60 : List UInt8 := 42 :: t_Sf_isSafe_61
abbrev t_Sf_isSafe_58 : List UInt8 := 16 :: 10 :: t_Sf_isSafe_60
abbrev t_Sf_isSafe_57 : List UInt8 := 28 :: t_Sf_isSafe_58
abbrev t_Sf_isSafe_56 : List UInt8 := 61 :: t_Sf_isSafe_57
abbrev t_Sf_isSafe_55 : List UInt8 := 3 :: t_Sf_isSafe_56
abbrev t_Sf_isSafe_54 : List UInt8 := 60 :: t_Sf_isSafe_55
abbrev t_Sf_isSafe_53 : List UInt8 := 3 :: t_Sf_isSafe_54
abbrev t_Sf_isSafe_52 : List UInt8 := 172 :: t_Sf_isSafe_53
abbrev t_Sf_isSafe_51 : List UInt8 := 3 :: t_Sf_isSafe_52
abbrev t_Sf_isSafe_48 : List UInt8 := 181 :: 0 :: 33 :: t_Sf_isSafe_51
abbrev t_Sf_isSafe_47 : List UInt8 := 4 :: t_Sf_isSafe_48
abbrev t_Sf_isSafe_46 : List UInt8 := 42 :: t_Sf_isSafe_47
abbrev t_Sf_isSafe_43 : List UInt8 := 153 :: 0 :: 10 :: t_Sf_isSafe_46
abbrev t_Sf_isSafe_40 : List UInt8 := 182 :: 0 :: 57 :: t_Sf_isSafe_43
abbrev t_Sf_isSafe_39 : List UInt8 := 42 :: t_Sf_isSafe_40
abbrev t_Sf_isSafe_36 : List UInt8 := 182 :: 0 :: 53 :: t_Sf_isSafe_39
abbrev t_Sf_isSafe_35 : List UInt8 := 3 :: t_Sf_isSafe_36
abbrev t_Sf_isSafe_34 : List UInt8 := 2 :: t_Sf_isSafe_35
abbrev t_Sf_isSafe_33 : List UInt8 := 42 :: t_Sf_isSafe_34
abbrev t_Sf_isSafe_32 : List UInt8 := 172 :: t_Sf_isSafe_33
abbrev t_Sf_isSafe_31 : List UInt8 := 4 :: t_Sf_isSafe_32
abbrev t_Sf_isSafe_28 : List UInt8 := 154 :: 0 :: 5 :: t_Sf_isSafe_31
abbrev t_Sf_isSafe_25 : List UInt8 := 182 :: 0 :: 49 :: t_Sf_isSafe_28
abbrev t_Sf_isSafe_24 : List UInt8 := 42 :: t_Sf_isSafe_25
abbrev t_Sf_isSafe_21 : List UInt8 := 182 :: 0 :: 43 :: t_Sf_isSafe_24
abbrev t_Sf_isSafe_18 : List UInt8 := 180 :: 0 :: 9 :: t_Sf_isSafe_21
abbrev t_Sf_isSafe_17 : List UInt8 := 42 :: t_Sf_isSafe_18
abbrev t_Sf_isSafe_14 : List UInt8 := 180 :: 0 :: 29 :: t_Sf_isSafe_17
abbrev t_Sf_isSafe_13 : List UInt8 := 42 :: t_Sf_isSafe_14
abbrev t_Sf_isSafe_10 : List UInt8 := 184 :: 0 :: 37 :: t_Sf_isSafe_13
abbrev t_Sf_isSafe_9 : List UInt8 := 9 :: t_Sf_isSafe_10
abbrev t_Sf_isSafe_6 : List UInt8 := 180 :: 0 :: 9 :: t_Sf_isSafe_9
abbrev t_Sf_isSafe_5 : List UInt8 := 42 :: t_Sf_isSafe_6
abbrev t_Sf_isSafe_2 : List UInt8 := 181 :: 0 :: 33 :: t_Sf_isSafe_5
abbrev t_Sf_isSafe_1 : List UInt8 := 3 :: t_Sf_isSafe_2
abbrev t_Sf_isSafe_0 : List UInt8 := 42 :: t_Sf_isSafe_1
theorem a_Sf_isSafe_0 : dk_at b_Sf_isSafe 0 t_Sf_isSafe_0 := dk_start (by decide +kernel)
theorem a_Sf_isSafe_1 : dk_at b_Sf_isSafe 1 t_Sf_isSafe_1 := dk_go 1 a_Sf_isSafe_0 rfl
theorem a_Sf_isSafe_2 : dk_at b_Sf_isSafe 2 t_Sf_isSafe_2 := dk_go 1 a_Sf_isSafe_1 rfl
theorem a_Sf_isSafe_5 : dk_at b_Sf_isSafe 5 t_Sf_isSafe_5 := dk_go 3 a_Sf_isSafe_2 rfl
theorem a_Sf_isSafe_6 : dk_at b_Sf_isSafe 6 t_Sf_isSafe_6 := dk_go 1 a_Sf_isSafe_5 rfl
theorem a_Sf_isSafe_9 : dk_at b_Sf_isSafe 9 t_Sf_isSafe_9 := dk_go 3 a_Sf_isSafe_6 rfl
theorem a_Sf_isSafe_10 : dk_at b_Sf_isSafe 10 t_Sf_isSafe_10 := dk_go 1 a_Sf_isSafe_9 rfl
theorem a_Sf_isSafe_13 : dk_at b_Sf_isSafe 13 t_Sf_isSafe_13 := dk_go 3 a_Sf_isSafe_10 rfl
theorem a_Sf_isSafe_14 : dk_at b_Sf_isSafe 14 t_Sf_isSafe_14 := dk_go 1 a_Sf_isSafe_13 rfl
theorem a_Sf_isSafe_17 : dk_at b_Sf_isSafe 17 t_Sf_isSafe_17 := dk_go 3 a_Sf_isSafe_14 rfl
theorem a_Sf_isSafe_18 : dk_at b_Sf_isSafe 18 t_Sf_isSafe_18 := dk_go 1 a_Sf_isSafe_17 rfl
theorem a_Sf_isSafe_21 : dk_at b_Sf_isSafe 21 t_Sf_isSafe_21 := dk_go 3 a_Sf_isSafe_18 rfl
theorem a_Sf_isSafe_24 : dk_at b_Sf_isSafe 24 t_Sf_isSafe_24 := dk_go 3 a_Sf_isSafe_21 rfl
theorem a_Sf_isSafe_25 : dk_at b_Sf_isSafe 25 t_Sf_isSafe_25 := dk_go 1 a_Sf_isSafe_24 rfl
theorem a_Sf_isSafe_28 : dk_at b_Sf_isSafe 28 t_Sf_isSafe_28 := dk_go 3 a_Sf_isSafe_25 rfl
theorem a_Sf_isSafe_31 : dk_at b_Sf_isSafe 31 t_Sf_isSafe_31 := dk_go 3 a_Sf_isSafe_28 rfl
theorem a_Sf_isSafe_32 : dk_at b_Sf_isSafe 32 t_Sf_isSafe_32 := dk_go 1 a_Sf_isSafe_31 rfl
theorem a_Sf_isSafe_33 : dk_at b_Sf_isSafe 33 t_Sf_isSafe_33 := dk_go 1 a_Sf_isSafe_32 rfl
theorem a_Sf_isSafe_34 : dk_at b_Sf_isSafe 34 t_Sf_isSafe_34 := dk_go 1 a_Sf_isSafe_33 rfl
theorem a_Sf_isSafe_35 : dk_at b_Sf_isSafe 35 t_Sf_isSafe_35 := dk_go 1 a_Sf_isSafe_34 rfl
theorem a_Sf_isSafe_36 : dk_at b_Sf_isSafe 36 t_Sf_isSafe_36 := dk_go 1 a_Sf_isSafe_35 rfl
theorem a_Sf_isSafe_39 : dk_at b_Sf_isSafe 39 t_Sf_isSafe_39 := dk_go 3 a_Sf_isSafe_36 rfl
theorem a_Sf_isSafe_40 : dk_at b_Sf_isSafe 40 t_Sf_isSafe_40 := dk_go 1 a_Sf_isSafe_39 rfl
theorem a_Sf_isSafe_43 : dk_at b_Sf_isSafe 43 t_Sf_isSafe_43 := dk_go 3 a_Sf_isSafe_40 rfl
theorem a_Sf_isSafe_46 : dk_at b_Sf_isSafe 46 t_Sf_isSafe_46 := dk_go 3 a_Sf_isSafe_43 rfl
theorem a_Sf_isSafe_47 : dk_at b_Sf_isSafe 47 t_Sf_isSafe_47 := dk_go 1 a_Sf_isSafe_46 rfl
theorem a_Sf_isSafe_48 : dk_at b_Sf_isSafe 48 t_Sf_isSafe_48 := dk_go 1 a_Sf_isSafe_47 rfl
theorem a_Sf_isSafe_51 : dk_at b_Sf_isSafe 51 t_Sf_isSafe_51 := dk_go 3 a_Sf_isSafe_48 rfl
theorem a_Sf_isSafe_52 : dk_at b_Sf_isSafe 52 t_Sf_isSafe_52 := dk_go 1 a_Sf_isSafe_51 rfl
theorem a_Sf_isSafe_53 : dk_at b_Sf_isSafe 53 t_Sf_isSafe_53 := dk_go 1 a_Sf_isSafe_52 rfl
theorem a_Sf_isSafe_54 : dk_at b_Sf_isSafe 54 t_Sf_isSafe_54 := dk_go 1 a_Sf_isSafe_53 rfl
theorem a_Sf_isSafe_55 : dk_at b_Sf_isSafe 55 t_Sf_isSafe_55 := dk_go 1 a_Sf_isSafe_54 rfl
theorem a_Sf_isSafe_56 : dk_at b_Sf_isSafe 56 t_Sf_isSafe_56 := dk_go 1 a_Sf_isSafe_55 rfl
theorem a_Sf_isSafe_57 : dk_at b_Sf_isSafe 57 t_Sf_isSafe_57 := dk_go 1 a_Sf_isSafe_56 rfl
theorem a_Sf_isSafe_58 : dk_at b_Sf_isSafe 58 t_Sf_isSafe_58 := dk_go 1 a_Sf_isSafe_57 rfl
theorem a_Sf_isSafe_60 : dk_at b_Sf_isSafe 60 t_Sf_isSafe_60 := dk_go 2 a_Sf_isSafe_58 rfl
theorem a_Sf_isSafe_61 : dk_at b_Sf_isSafe 61 t_Sf_isSafe_61 := dk_go 1 a_Sf_isSafe_60 rfl
theorem a_Sf_isSafe_64 : dk_at b_Sf_isSafe 64 t_Sf_isSafe_64 := dk_go 3 a_Sf_isSafe_61 rfl
theorem a_Sf_isSafe_67 : dk_at b_Sf_isSafe 67 t_Sf_isSafe_67 := dk_go 3 a_Sf_isSafe_64 rfl
theorem a_Sf_isSafe_70 : dk_at b_Sf_isSafe 70 t_Sf_isSafe_70 := dk_go 3 a_Sf_isSafe_67 rfl
theorem a_Sf_isSafe_71 : dk_at b_Sf_isSafe 71 t_Sf_isSafe_71 := dk_go 1 a_Sf_isSafe_70 rfl
theorem a_Sf_isSafe_74 : dk_at b_Sf_isSafe 74 t_Sf_isSafe_74 := dk_go 3 a_Sf_isSafe_71 rfl
theorem a_Sf_isSafe_75 : dk_at b_Sf_isSafe 75 t_Sf_isSafe_75 := dk_go 1 a_Sf_isSafe_74 rfl
theorem a_Sf_isSafe_76 : dk_at b_Sf_isSafe 76 t_Sf_isSafe_76 := dk_go 1 a_Sf_isSafe_75 rfl
theorem a_Sf_isSafe_78 : dk_at b_Sf_isSafe 78 t_Sf_isSafe_78 := dk_go 2 a_Sf_isSafe_76 rfl
theorem a_Sf_isSafe_79 : dk_at b_Sf_isSafe 79 t_Sf_isSafe_79 := dk_go 1 a_Sf_isSafe_78 rfl
theorem a_Sf_isSafe_80 : dk_at b_Sf_isSafe 80 t_Sf_isSafe_80 := dk_go 1 a_Sf_isSafe_79 rfl
theorem a_Sf_isSafe_82 : dk_at b_Sf_isSafe 82 t_Sf_isSafe_82 := dk_go 2 a_Sf_isSafe_80 rfl
theorem a_Sf_isSafe_83 : dk_at b_Sf_isSafe 83 t_Sf_isSafe_83 := dk_go 1 a_Sf_isSafe_82 rfl
theorem a_Sf_isSafe_86 : dk_at b_Sf_isSafe 86 t_Sf_isSafe_86 := dk_go 3 a_Sf_isSafe_83 rfl
theorem a_Sf_isSafe_87 : dk_at b_Sf_isSafe 87 t_Sf_isSafe_87 := dk_go 1 a_Sf_isSafe_86 rfl
theorem a_Sf_isSafe_88 : dk_at b_Sf_isSafe 88 t_Sf_isSafe_88 := dk_go 1 a_Sf_isSafe_87 rfl
theorem a_Sf_isSafe_91 : dk_at b_Sf_isSafe 91 t_Sf_isSafe_91 := dk_go 3 a_Sf_isSafe_88 rfl
theorem a_Sf_isSafe_92 : dk_at b_Sf_isSafe 92 t_Sf_isSafe_92 := dk_go 1 a_Sf_isSafe_91 rfl
theorem a_Sf_isSafe_93 : dk_at b_Sf_isSafe 93 t_Sf_isSafe_93 := dk_go 1 a_Sf_isSafe_92 rfl
theorem a_Sf_isSafe_96 : dk_at b_Sf_isSafe 96 t_Sf_isSafe_96 := dk_go 3 a_Sf_isSafe_93 rfl
theorem a_Sf_isSafe_97 : dk_at b_Sf_isSafe 97 t_Sf_isSafe_97 := dk_go 1 a_Sf_isSafe_96 rfl
theorem a_Sf_isSafe_99 : dk_at b_Sf_isSafe 99 t_Sf_isSafe_99 := dk_go 2 a_Sf_isSafe_97 rfl
theorem a_Sf_isSafe_100 : dk_at b_Sf_isSafe 100 t_Sf_isSafe_100 := dk_go 1 a_Sf_isSafe_99 rfl
theorem a_Sf_isSafe_103 : dk_at b_Sf_isSafe 103 t_Sf_isSafe_103 := dk_go 3 a_Sf_isSafe_100 rfl
theorem a_Sf_isSafe_104 : dk_at b_Sf_isSafe 104 t_Sf_isSafe_104 := dk_go 1 a_Sf_isSafe_103 rfl
theorem a_Sf_isSafe_105 : dk_at b_Sf_isSafe 105 t_Sf_isSafe_105 := dk_go 1 a_Sf_isSafe_104 rfl
theorem a_Sf_isSafe_107 : dk_at b_Sf_isSafe 107 t_Sf_isSafe_107 := dk_go 2 a_Sf_isSafe_105 rfl
theorem a_Sf_isSafe_108 : dk_at b_Sf_isSafe 108 t_Sf_isSafe_108 := dk_go 1 a_Sf_isSafe_107 rfl
theorem a_Sf_isSafe_109 : dk_at b_Sf_isSafe 109 t_Sf_isSafe_109 := dk_go 1 a_Sf_isSafe_108 rfl
theorem a_Sf_isSafe_112 : dk_at b_Sf_isSafe 112 t_Sf_isSafe_112 := dk_go 3 a_Sf_isSafe_109 rfl
theorem a_Sf_isSafe_113 : dk_at b_Sf_isSafe 113 t_Sf_isSafe_113 := dk_go 1 a_Sf_isSafe_112 rfl
theorem a_Sf_isSafe_116 : dk_at b_Sf_isSafe 116 t_Sf_isSafe_116 := dk_go 3 a_Sf_isSafe_113 rfl
theorem a_Sf_isSafe_119 : dk_at b_Sf_isSafe 119 t_Sf_isSafe_119 := dk_go 3 a_Sf_isSafe_116 rfl
theorem a_Sf_isSafe_120 : dk_at b_Sf_isSafe 120 t_Sf_isSafe_120 := dk_go 1 a_Sf_isSafe_119 rfl
theorem a_Sf_isSafe_121 : dk_at b_Sf_isSafe 121 t_Sf_isSafe_121 := dk_go 1 a_Sf_isSafe_120 rfl
theorem a_Sf_isSafe_122 : dk_at b_Sf_isSafe 122 t_Sf_isSafe_122 := dk_go 1 a_Sf_isSafe_121 rfl
theorem a_Sf_isSafe_123 : dk_at b_Sf_isSafe 123 t_Sf_isSafe_123 := dk_go 1 a_Sf_isSafe_122 rfl
theorem a_Sf_isSafe_126 : dk_at b_Sf_isSafe 126 t_Sf_isSafe_126 := dk_go 3 a_Sf_isSafe_123 rfl
theorem a_Sf_isSafe_127 : dk_at b_Sf_isSafe 127 t_Sf_isSafe_127 := dk_go 1 a_Sf_isSafe_126 rfl
theorem a_Sf_isSafe_128 : dk_at b_Sf_isSafe 128 t_Sf_isSafe_128 := dk_go 1 a_Sf_isSafe_127 rfl
theorem a_Sf_isSafe_129 : dk_at b_Sf_isSafe 129 t_Sf_isSafe_129 := dk_go 1 a_Sf_isSafe_128 rfl
theorem a_Sf_isSafe_130 : dk_at b_Sf_isSafe 130 t_Sf_isSafe_130 := dk_go 1 a_Sf_isSafe_129 rfl
theorem a_Sf_isSafe_133 : dk_at b_Sf_isSafe 133 t_Sf_isSafe_133 := dk_go 3 a_Sf_isSafe_130 rfl
theorem a_Sf_isSafe_136 : dk_at b_Sf_isSafe 136 t_Sf_isSafe_136 := dk_go 3 a_Sf_isSafe_133 rfl
theorem a_Sf_isSafe_137 : dk_at b_Sf_isSafe 137 t_Sf_isSafe_137 := dk_go 1 a_Sf_isSafe_136 rfl
theorem d_Sf_isSafe_0 : decode b_Sf_isSafe 0 = .ok (.aload_n 0, 1) := dk_0 a_Sf_isSafe_0 (dko_42 _)
theorem d_Sf_isSafe_1 : decode b_Sf_isSafe 1 = .ok (.iconst 0, 1) := dk_0 a_Sf_isSafe_1 (dko_3 _)
theorem d_Sf_isSafe_2 : decode b_Sf_isSafe 2 = .ok (.putfield 33, 3) := dk_U2 a_Sf_isSafe_2 (dko_181 _) rfl
theorem d_Sf_isSafe_5 : decode b_Sf_isSafe 5 = .ok (.aload_n 0, 1) := dk_0 a_Sf_isSafe_5 (dko_42 _)
theorem d_Sf_isSafe_6 : decode b_Sf_isSafe 6 = .ok (.getfield 9, 3) := dk_U2 a_Sf_isSafe_6 (dko_180 _) rfl
theorem d_Sf_isSafe_9 : decode b_Sf_isSafe 9 = .ok (.lconst 0, 1) := dk_0 a_Sf_isSafe_9 (dko_9 _)
theorem d_Sf_isSafe_10 : decode b_Sf_isSafe 10 = .ok (.invokestatic 37, 3) := dk_U2 a_Sf_isSafe_10 (dko_184 _) rfl
theorem d_Sf_isSafe_13 : decode b_Sf_isSafe 13 = .ok (.aload_n 0, 1) := dk_0 a_Sf_isSafe_13 (dko_42 _)
theorem d_Sf_isSafe_14 : decode b_Sf_isSafe 14 = .ok (.getfield 29, 3) := dk_U2 a_Sf_isSafe_14 (dko_180 _) rfl
theorem d_Sf_isSafe_17 : decode b_Sf_isSafe 17 = .ok (.aload_n 0, 1) := dk_0 a_Sf_isSafe_17 (dko_42 _)
theorem d_Sf_isSafe_18 : decode b_Sf_isSafe 18 = .ok (.getfield 9, 3) := dk_U2 a_Sf_isSafe_18 (dko_180 _) rfl
theorem d_Sf_isSafe_21 : decode b_Sf_isSafe 21 = .ok (.invokevirtual 43, 3) := dk_U2 a_Sf_isSafe_21 (dko_182 _) rfl
theorem d_Sf_isSafe_24 : decode b_Sf_isSafe 24 = .ok (.aload_n 0, 1) := dk_0 a_Sf_isSafe_24 (dko_42 _)
theorem d_Sf_isSafe_25 : decode b_Sf_isSafe 25 = .ok (.invokevirtual 49, 3) := dk_U2 a_Sf_isSafe_25 (dko_182 _) rfl
theorem d_Sf_isSafe_28 : decode b_Sf_isSafe 28 = .ok (.ifCond .ne 5, 3) := dk_S2 a_Sf_isSafe_28 (dko_154 _) (by decide +kernel)
theorem d_Sf_isSafe_31 : decode b_Sf_isSafe 31 = .ok (.iconst 1, 1) := dk_0 a_Sf_isSafe_31 (dko_4 _)
theorem d_Sf_isSafe_32 : decode b_Sf_isSafe 32 = .ok (.ireturn, 1) := dk_0 a_Sf_isSafe_32 (dko_172 _)
theorem d_Sf_isSafe_33 : decode b_Sf_isSafe 33 = .ok (.aload_n 0, 1) := dk_0 a_Sf_isSafe_33 (dko_42 _)
theorem d_Sf_isSafe_34 : decode b_Sf_isSafe 34 = .ok (.iconst (-1), 1) := dk_0 a_Sf_isSafe_34 (dko_2 _)
theorem d_Sf_isSafe_35 : decode b_Sf_isSafe 35 = .ok (.iconst 0, 1) := dk_0 a_Sf_isSafe_35 (dko_3 _)
theorem d_Sf_isSafe_36 : decode b_Sf_isSafe 36 = .ok (.invokevirtual 53, 3) := dk_U2 a_Sf_isSafe_36 (dko_182 _) rfl
theorem d_Sf_isSafe_39 : decode b_Sf_isSafe 39 = .ok (.aload_n 0, 1) := dk_0 a_Sf_isSafe_39 (dko_42 _)
theorem d_Sf_isSafe_40 : decode b_Sf_isSafe 40 = .ok (.invokevirtual 57, 3) := dk_U2 a_Sf_isSafe_40 (dko_182 _) rfl
theorem d_Sf_isSafe_43 : decode b_Sf_isSafe 43 = .ok (.ifCond .eq 10, 3) := dk_S2 a_Sf_isSafe_43 (dko_153 _) (by decide +kernel)
theorem d_Sf_isSafe_46 : decode b_Sf_isSafe 46 = .ok (.aload_n 0, 1) := dk_0 a_Sf_isSafe_46 (dko_42 _)
theorem d_Sf_isSafe_47 : decode b_Sf_isSafe 47 = .ok (.iconst 1, 1) := dk_0 a_Sf_isSafe_47 (dko_4 _)
theorem d_Sf_isSafe_48 : decode b_Sf_isSafe 48 = .ok (.putfield 33, 3) := dk_U2 a_Sf_isSafe_48 (dko_181 _) rfl
theorem d_Sf_isSafe_51 : decode b_Sf_isSafe 51 = .ok (.iconst 0, 1) := dk_0 a_Sf_isSafe_51 (dko_3 _)
theorem d_Sf_isSafe_52 : decode b_Sf_isSafe 52 = .ok (.ireturn, 1) := dk_0 a_Sf_isSafe_52 (dko_172 _)
theorem d_Sf_isSafe_53 : decode b_Sf_isSafe 53 = .ok (.iconst 0, 1) := dk_0 a_Sf_isSafe_53 (dko_3 _)
theorem d_Sf_isSafe_54 : decode b_Sf_isSafe 54 = .ok (.istore_n 1, 1) := dk_0 a_Sf_isSafe_54 (dko_60 _)
theorem d_Sf_isSafe_55 : decode b_Sf_isSafe 55 = .ok (.iconst 0, 1) := dk_0 a_Sf_isSafe_55 (dko_3 _)
theorem d_Sf_isSafe_56 : decode b_Sf_isSafe 56 = .ok (.istore_n 2, 1) := dk_0 a_Sf_isSafe_56 (dko_61 _)
theorem d_Sf_isSafe_57 : decode b_Sf_isSafe 57 = .ok (.iload_n 2, 1) := dk_0 a_Sf_isSafe_57 (dko_28 _)
theorem d_Sf_isSafe_58 : decode b_Sf_isSafe 58 = .ok (.bipush 10, 2) := dk_S1 a_Sf_isSafe_58 (dko_16 _) (by decide +kernel)
theorem d_Sf_isSafe_60 : decode b_Sf_isSafe 60 = .ok (.aload_n 0, 1) := dk_0 a_Sf_isSafe_60 (dko_42 _)
theorem d_Sf_isSafe_61 : decode b_Sf_isSafe 61 = .ok (.getfield 25, 3) := dk_U2 a_Sf_isSafe_61 (dko_180 _) rfl
theorem d_Sf_isSafe_64 : decode b_Sf_isSafe 64 = .ok (.getfield 60, 3) := dk_U2 a_Sf_isSafe_64 (dko_180 _) rfl
theorem d_Sf_isSafe_67 : decode b_Sf_isSafe 67 = .ok (.getfield 66, 3) := dk_U2 a_Sf_isSafe_67 (dko_180 _) rfl
theorem d_Sf_isSafe_70 : decode b_Sf_isSafe 70 = .ok (.imul, 1) := dk_0 a_Sf_isSafe_70 (dko_104 _)
theorem d_Sf_isSafe_71 : decode b_Sf_isSafe 71 = .ok (.if_icmp .ge 65, 3) := dk_S2 a_Sf_isSafe_71 (dko_162 _) (by decide +kernel)
theorem d_Sf_isSafe_74 : decode b_Sf_isSafe 74 = .ok (.aload_n 0, 1) := dk_0 a_Sf_isSafe_74 (dko_42 _)
theorem d_Sf_isSafe_75 : decode b_Sf_isSafe 75 = .ok (.iload_n 2, 1) := dk_0 a_Sf_isSafe_75 (dko_28 _)
theorem d_Sf_isSafe_76 : decode b_Sf_isSafe 76 = .ok (.bipush 10, 2) := dk_S1 a_Sf_isSafe_76 (dko_16 _) (by decide +kernel)
theorem d_Sf_isSafe_78 : decode b_Sf_isSafe 78 = .ok (.idiv, 1) := dk_0 a_Sf_isSafe_78 (dko_108 _)
theorem d_Sf_isSafe_79 : decode b_Sf_isSafe 79 = .ok (.iload_n 2, 1) := dk_0 a_Sf_isSafe_79 (dko_28 _)
theorem d_Sf_isSafe_80 : decode b_Sf_isSafe 80 = .ok (.bipush 10, 2) := dk_S1 a_Sf_isSafe_80 (dko_16 _) (by decide +kernel)
theorem d_Sf_isSafe_82 : decode b_Sf_isSafe 82 = .ok (.irem, 1) := dk_0 a_Sf_isSafe_82 (dko_112 _)
theorem d_Sf_isSafe_83 : decode b_Sf_isSafe 83 = .ok (.invokevirtual 71, 3) := dk_U2 a_Sf_isSafe_83 (dko_182 _) rfl
theorem d_Sf_isSafe_86 : decode b_Sf_isSafe 86 = .ok (.istore_n 3, 1) := dk_0 a_Sf_isSafe_86 (dko_62 _)
theorem d_Sf_isSafe_87 : decode b_Sf_isSafe 87 = .ok (.iload_n 3, 1) := dk_0 a_Sf_isSafe_87 (dko_29 _)
theorem d_Sf_isSafe_88 : decode b_Sf_isSafe 88 = .ok (.ifCond .eq 40, 3) := dk_S2 a_Sf_isSafe_88 (dko_153 _) (by decide +kernel)
theorem d_Sf_isSafe_91 : decode b_Sf_isSafe 91 = .ok (.iload_n 3, 1) := dk_0 a_Sf_isSafe_91 (dko_29 _)
theorem d_Sf_isSafe_92 : decode b_Sf_isSafe 92 = .ok (.iload_n 1, 1) := dk_0 a_Sf_isSafe_92 (dko_27 _)
theorem d_Sf_isSafe_93 : decode b_Sf_isSafe 93 = .ok (.if_icmp .ne 10, 3) := dk_S2 a_Sf_isSafe_93 (dko_160 _) (by decide +kernel)
theorem d_Sf_isSafe_96 : decode b_Sf_isSafe 96 = .ok (.iload_n 2, 1) := dk_0 a_Sf_isSafe_96 (dko_28 _)
theorem d_Sf_isSafe_97 : decode b_Sf_isSafe 97 = .ok (.bipush 10, 2) := dk_S1 a_Sf_isSafe_97 (dko_16 _) (by decide +kernel)
theorem d_Sf_isSafe_99 : decode b_Sf_isSafe 99 = .ok (.irem, 1) := dk_0 a_Sf_isSafe_99 (dko_112 _)
theorem d_Sf_isSafe_100 : decode b_Sf_isSafe 100 = .ok (.ifCond .ne 28, 3) := dk_S2 a_Sf_isSafe_100 (dko_154 _) (by decide +kernel)
theorem d_Sf_isSafe_103 : decode b_Sf_isSafe 103 = .ok (.aload_n 0, 1) := dk_0 a_Sf_isSafe_103 (dko_42 _)
theorem d_Sf_isSafe_104 : decode b_Sf_isSafe 104 = .ok (.iload_n 2, 1) := dk_0 a_Sf_isSafe_104 (dko_28 _)
theorem d_Sf_isSafe_105 : decode b_Sf_isSafe 105 = .ok (.bipush 10, 2) := dk_S1 a_Sf_isSafe_105 (dko_16 _) (by decide +kernel)
theorem d_Sf_isSafe_107 : decode b_Sf_isSafe 107 = .ok (.idiv, 1) := dk_0 a_Sf_isSafe_107 (dko_108 _)
theorem d_Sf_isSafe_108 : decode b_Sf_isSafe 108 = .ok (.iload_n 3, 1) := dk_0 a_Sf_isSafe_108 (dko_29 _)
theorem d_Sf_isSafe_109 : decode b_Sf_isSafe 109 = .ok (.invokevirtual 53, 3) := dk_U2 a_Sf_isSafe_109 (dko_182 _) rfl
theorem d_Sf_isSafe_112 : decode b_Sf_isSafe 112 = .ok (.aload_n 0, 1) := dk_0 a_Sf_isSafe_112 (dko_42 _)
theorem d_Sf_isSafe_113 : decode b_Sf_isSafe 113 = .ok (.invokevirtual 57, 3) := dk_U2 a_Sf_isSafe_113 (dko_182 _) rfl
theorem d_Sf_isSafe_116 : decode b_Sf_isSafe 116 = .ok (.ifCond .eq 12, 3) := dk_S2 a_Sf_isSafe_116 (dko_153 _) (by decide +kernel)
theorem d_Sf_isSafe_119 : decode b_Sf_isSafe 119 = .ok (.aload_n 0, 1) := dk_0 a_Sf_isSafe_119 (dko_42 _)
theorem d_Sf_isSafe_120 : decode b_Sf_isSafe 120 = .ok (.iconst 2, 1) := dk_0 a_Sf_isSafe_120 (dko_5 _)
theorem d_Sf_isSafe_121 : decode b_Sf_isSafe 121 = .ok (.iload_n 2, 1) := dk_0 a_Sf_isSafe_121 (dko_28 _)
theorem d_Sf_isSafe_122 : decode b_Sf_isSafe 122 = .ok (.iadd, 1) := dk_0 a_Sf_isSafe_122 (dko_96 _)
theorem d_Sf_isSafe_123 : decode b_Sf_isSafe 123 = .ok (.putfield 33, 3) := dk_U2 a_Sf_isSafe_123 (dko_181 _) rfl
theorem d_Sf_isSafe_126 : decode b_Sf_isSafe 126 = .ok (.iconst 0, 1) := dk_0 a_Sf_isSafe_126 (dko_3 _)
theorem d_Sf_isSafe_127 : decode b_Sf_isSafe 127 = .ok (.ireturn, 1) := dk_0 a_Sf_isSafe_127 (dko_172 _)
theorem d_Sf_isSafe_128 : decode b_Sf_isSafe 128 = .ok (.iload_n 3, 1) := dk_0 a_Sf_isSafe_128 (dko_29 _)
theorem d_Sf_isSafe_129 : decode b_Sf_isSafe 129 = .ok (.istore_n 1, 1) := dk_0 a_Sf_isSafe_129 (dko_60 _)
theorem d_Sf_isSafe_130 : decode b_Sf_isSafe 130 = .ok (.iinc 2 1, 3) := dk_US a_Sf_isSafe_130 (dko_132 _) (by decide +kernel)
theorem d_Sf_isSafe_133 : decode b_Sf_isSafe 133 = .ok (.goto (-76), 3) := dk_S2 a_Sf_isSafe_133 (dko_167 _) (by decide +kernel)
theorem d_Sf_isSafe_136 : decode b_Sf_isSafe 136 = .ok (.iconst 1, 1) := dk_0 a_Sf_isSafe_136 (dko_4 _)
theorem d_Sf_isSafe_137 : decode b_Sf_isSafe 137 = .ok (.ireturn, 1) := dk_0 a_Sf_isSafe_137 (dko_172 _)
set_option maxHeartbeats 4000000 in
set_option maxRecDepth 100000 in
theorem ok_Sf_isSafe (pc : Nat) : OpS mt mi_Sf_isSafe pc (cs_Sf_isSafe pc) := (os_n (os_n (os_n (os_n (os_n (os_n (os_l (so_aload_n d_Sf_isSafe_0 rfl)) (os_l (so_iconst d_Sf_isSafe_1 (by decide)))) (os_n (os_l (so_putI (C := R_Sf) (T := F_Sf) (N := 10) (j := 6) in_Sf t_Sf_ok n_Sf rfl (by decide) mw_288 rfl (by decide +kernel) d_Sf_isSafe_2)) (os_n (os_l (so_aload_n d_Sf_isSafe_5 rfl)) (os_l (so_get (C := R_Sf) (T := F_Sf) (N := 10) (j := 2) in_Sf rfl (by decide) mw_284 d_Sf_isSafe_6))))) (os_n (os_n (os_l (so_lconst d_Sf_isSafe_9 (by decide))) (os_l (so_callS (iv := mi_Ar_fill1) rfl mw_1096 mw_1021 mw_6 mw_1022 ⟨by decide +kernel, by decide +kernel, by decide +kernel⟩ (by decide) d_Sf_isSafe_10))) (os_n (os_l (so_aload_n d_Sf_isSafe_13 rfl)) (os_n (os_l (so_get (C := R_Sf) (T := F_Sf) (N := 10) (j := 1) in_Sf rfl (by decide) mw_283 d_Sf_isSafe_14)) (os_l (so_aload_n d_Sf_isSafe_17 rfl)))))) (os_n (os_n (os_n (os_l (so_get (C := R_Sf) (T := F_Sf) (N := 10) (j := 2) in_Sf rfl (by decide) mw_284 d_Sf_isSafe_18)) (os_l (so_callV (iv := mi_Wa_addSources) rfl rfl rfl mw_1097 mw_1098 mw_1099 mw_7 mw_1100 ⟨by decide +kernel, by decide +kernel, by decide +kernel⟩ (by decide) d_Sf_isSafe_21))) (os_n (os_l (so_aload_n d_Sf_isSafe_24 rfl)) (os_n (os_l (so_callV (iv := mi_Sf_findRivals) rfl rfl rfl mw_1101 mw_1103 sl_48 mw_8 mw_1104 ⟨by decide +kernel, by decide +kernel, by decide +kernel⟩ (by decide) d_Sf_isSafe_25)) (os_l (so_ifne d_Sf_isSafe_28 (by decide)))))) (os_n (os_n (os_l (so_iconst d_Sf_isSafe_31 (by decide))) (os_l (so_zreturn rfl d_Sf_isSafe_32))) (os_n (os_l (so_aload_n d_Sf_isSafe_33 rfl)) (os_n (os_l (so_iconst d_Sf_isSafe_34 (by decide))) (os_l (so_iconst d_Sf_isSafe_35 (by decide)))))))) (os_n (os_n (os_n (os_n (os_l (so_callV (iv := mi_Sf_link) rfl rfl rfl mw_1105 mw_1107 sl_49 mw_8 mw_1108 ⟨by decide +kernel, by decide +kernel, by decide +kernel⟩ (by decide) d_Sf_isSafe_36)) (os_l (so_aload_n d_Sf_isSafe_39 rfl))) (os_n (os_l (so_callV (iv := mi_Sf_meet) rfl rfl rfl mw_1110 mw_1112 sl_50 mw_8 mw_1113 ⟨by decide +kernel, by decide +kernel, by decide +kernel⟩ (by decide) d_Sf_isSafe_40)) (os_n (os_l (so_ifeq d_Sf_isSafe_43 (by decide))) (os_l (so_aload_n d_Sf_isSafe_46 rfl))))) (os_n (os_n (os_l (so_iconst d_Sf_isSafe_47 (by decide))) (os_l (so_putI (C := R_Sf) (T := F_Sf) (N := 10) (j := 6) in_Sf t_Sf_ok n_Sf rfl (by decide) mw_288 rfl (by decide +kernel) d_Sf_isSafe_48))) (os_n (os_l (so_iconst d_Sf_isSafe_51 (by decide))) (os_n (os_l (so_zreturn rfl d_Sf_isSafe_52)) (os_l (so_iconst d_Sf_isSafe_53 (by decide))))))) (os_n (os_n (os_n (os_l (so_istore_n d_Sf_isSafe_54 rfl (by decide))) (os_l (so_iconst d_Sf_isSafe_55 (by decide)))) (os_n (os_l (so_istore_n d_Sf_isSafe_56 rfl (by decide))) (os_n (os_l (so_iload_n d_Sf_isSafe_57 rfl)) (os_l (so_bipush d_Sf_isSafe_58 (by decide)))))) (os_n (os_n (os_l (so_aload_n d_Sf_isSafe_60 rfl)) (os_l (so_get (C := R_Sf) (T := F_Sf) (N := 10) (j := 0) in_Sf rfl (by decide) mw_282 d_Sf_isSafe_61))) (os_n (os_l (so_get (C := R_St) (T := F_St) (N := 12) (j := 0) in_St rfl (by decide) mw_150 d_Sf_isSafe_64)) (os_n (os_l (so_get (C := R_Pl) (T := F_Pl) (N := 12) (j := 0) in_Pl rfl (by decide) mw_87 d_Sf_isSafe_67)) (os_l (so_imul d_Sf_isSafe_70)))))))) (os_n (os_n (os_n (os_n (os_n (os_l (so_icge d_Sf_isSafe_71 (by decide))) (os_l (so_aload_n d_Sf_isSafe_74 rfl))) (os_n (os_l (so_iload_n d_Sf_isSafe_75 rfl)) (os_n (os_l (so_bipush d_Sf_isSafe_76 (by decide))) (os_l (so_idiv d_Sf_isSafe_78))))) (os_n (os_n (os_l (so_iload_n d_Sf_isSafe_79 rfl)) (os_l (so_bipush d_Sf_isSafe_80 (by decide)))) (os_n (os_l (so_irem d_Sf_isSafe_82)) (os_n (os_l (so_callV (iv := mi_Sf_otherPasses) rfl rfl rfl mw_1122 mw_1124 sl_51 mw_8 mw_1125 ⟨by decide +kernel, by decide +kernel, by decide +kernel⟩ (by decide) d_Sf_isSafe_83)) (os_l (so_istore_n d_Sf_isSafe_86 rfl (by decide))))))) (os_n (os_n (os_n (os_l (so_iload_n d_Sf_isSafe_87 rfl)) (os_l (so_ifeq d_Sf_isSafe_88 (by decide)))) (os_n (os_l (so_iload_n d_Sf_isSafe_91 rfl)) (os_n (os_l (so_iload_n d_Sf_isSafe_92 rfl)) (os_l (so_icne d_Sf_isSafe_93 (by decide)))))) (os_n (os_n (os_l (so_iload_n d_Sf_isSafe_96 rfl)) (os_l (so_bipush d_Sf_isSafe_97 (by decide)))) (os_n (os_l (so_irem d_Sf_isSafe_99)) (os_n (os_l (so_ifne d_Sf_isSafe_100 (by decide))) (os_l (so_aload_n d_Sf_isSafe_103 rfl))))))) (os_n (os_n (os_n (os_n (os_l (so_iload_n d_Sf_isSafe_104 rfl)) (os_l (so_bipush d_Sf_isSafe_105 (by decide)))) (os_n (os_l (so_idiv d_Sf_isSafe_107)) (os_n (os_l (so_iload_n d_Sf_isSafe_108 rfl)) (os_l (so_callV (iv := mi_Sf_link) rfl rfl rfl mw_1105 mw_1107 sl_49 mw_8 mw_1108 ⟨by decide +kernel, by decide +kernel, by decide +kernel⟩ (by decide) d_Sf_isSafe_109))))) (os_n (os_n (os_l (so_aload_n d_Sf_isSafe_112 rfl)) (os_l (so_callV (iv := mi_Sf_meet) rfl rfl rfl mw_1110 mw_1112 sl_50 mw_8 mw_1113 ⟨by decide +kernel, by decide +kernel, by decide +kernel⟩ (by decide) d_Sf_isSafe_113))) (os_n (os_l (so_ifeq d_Sf_isSafe_116 (by decide))) (os_n (os_l (so_aload_n d_Sf_isSafe_119 rfl)) (os_l (so_iconst d_Sf_isSafe_120 (by decide))))))) (os_n (os_n (os_n (os_l (so_iload_n d_Sf_isSafe_121 rfl)) (os_l (so_iadd d_Sf_isSafe_122))) (os_n (os_l (so_putI (C := R_Sf) (T := F_Sf) (N := 10) (j := 6) in_Sf t_Sf_ok n_Sf rfl (by decide) mw_288 rfl (by decide +kernel) d_Sf_isSafe_123)) (os_n (os_l (so_iconst d_Sf_isSafe_126 (by decide))) (os_l (so_zreturn rfl d_Sf_isSafe_127))))) (os_n (os_n (os_l (so_iload_n d_Sf_isSafe_128 rfl)) (os_n (os_l (so_istore_n d_Sf_isSafe_129 rfl (by decide))) (os_l (so_iinc d_Sf_isSafe_130 (by decide) (by decide))))) (os_n (os_l (so_goto d_Sf_isSafe_133 (by decide))) (os_n (os_l (so_iconst d_Sf_isSafe_136 (by decide))) (os_l (so_zreturn rfl d_Sf_isSafe_137)))))))))
abbrev t_Sf_otherPasses_100 : List UInt8 := 172 :: []
abbrev t_Sf_otherPasses_99 : List UInt8 := 3 :: t_Sf_otherPasses_100
abbrev t_Sf_otherPasses_96 : List UInt8 := 167 :: 0 :: 4 :: t_Sf_otherPasses_99
abbrev t_Sf_otherPasses_94 : List UInt8 := 21 :: 5 :: t_Sf_otherPasses_96
abbrev t_Sf_otherPasses_91 : List UInt8 := 153 :: 0 :: 8 :: t_Sf_otherPasses_94
abbrev t_Sf_otherPasses_90 : List UInt8 := 126 :: t_Sf_otherPasses_91
abbrev t_Sf_otherPasses_89 : List UInt8 := 46 :: t_Sf_otherPasses_90
abbrev t_Sf_otherPasses_86 : List UInt8 := 184 :: 0 :: 90 :: t_Sf_otherPasses_89
abbrev t_Sf_otherPasses_85 : List UInt8 := 7 :: t_Sf_otherPasses_86
abbrev t_Sf_otherPasses_84 : List UInt8 := 46 :: t_Sf_otherPasses_85
abbrev t_Sf_otherPasses_83 : List UInt8 := 27 :: t_Sf_otherPasses_84
abbrev t_Sf_otherPasses_80 : List UInt8 := 180 :: 0 :: 87 :: t_Sf_otherPasses_83
abbrev t_Sf_otherPasses_77 : List UInt8 := 180 :: 0 :: 60 :: t_Sf_otherPasses_80
abbrev t_Sf_otherPasses_74 : List UInt8 := 180 :: 0 :: 25 :: t_Sf_otherPasses_77
abbrev t_Sf_otherPasses_73 : List UInt8 := 42 :: t_Sf_otherPasses_74
abbrev t_Sf_otherPasses_70 : List UInt8 := 178 :: 0 :: 84 :: t_Sf_otherPasses_73
abbrev t_Sf_otherPasses_69 : List UInt8 := 126 :: t_Sf_otherPasses_70
abbrev t_Sf_otherPasses_68 : List UInt8 := 130 :: t_Sf_otherPasses_69
abbrev t_Sf_otherPasses_67 : List UInt8 := 2 :: t_Sf_otherPasses_68
abbrev t_Sf_otherPasses_65 : List UInt8 := 21 :: 4 :: t_Sf_otherPasses_67
abbrev t_Sf_otherPasses_63 : List UInt8 := 21 :: 5 :: t_Sf_otherPasses_65
abbrev t_Sf_otherPasses_61 : List UInt8 := 54 :: 5 :: t_Sf_otherPasses_63
abbrev t_Sf_otherPasses_60 : List UInt8 := 46 :: t_Sf_otherPasses_61
abbrev t_Sf_otherPasses_59 : List UInt8 := 96 :: t_Sf_otherPasses_60
abbrev t_Sf_otherPasses_58 : List UInt8 := 28 :: t_Sf_otherPasses_59
abbrev t_Sf_otherPasses_57 : List UInt8 := 104 :: t_Sf_otherPasses_58
abbrev t_Sf_otherPasses_55 : List UInt8 := 16 :: 10 :: t_Sf_otherPasses_57
abbrev t_Sf_otherPasses_54 : List UInt8 := 29 :: t_Sf_otherPasses_55
abbrev t_Sf_otherPasses_51 : List UInt8 := 178 :: 0 :: 78 :: t_Sf_otherPasses_54
abbrev t_Sf_otherPasses_49 : List UInt8 := 54 :: 4 :: t_Sf_otherPasses_51
abbrev t_Sf_otherPasses_48 : List UInt8 := 46 :: t_Sf_otherPasses_49
abbrev t_Sf_otherPasses_47 : List UInt8 := 96 :: t_Sf_otherPasses_48
abbrev t_Sf_otherPasses_46 : List UInt8 := 46 :: t_Sf_otherPasses_47
abbrev t_Sf_otherPasses_45 : List UInt8 := 27 :: t_Sf_otherPasses_46
abbrev t_Sf_otherPasses_42 : List UInt8 := 180 :: 0 :: 81 :: t_Sf_otherPasses_45
abbrev t_Sf_otherPasses_39 : List UInt8 := 180 :: 0 :: 25 :: t_Sf_otherPasses_42
abbrev t_Sf_otherPasses_38 : List UInt8 := 42 :: t_Sf_otherPasses_39
abbrev t_Sf_otherPasses_37 : List UInt8 := 104 :: t_Sf_otherPasses_38
abbrev t_Sf_otherPasses_35 : List UInt8 := 16 :: 10 :: t_Sf_otherPasses_37
abbrev t_Sf_otherPasses_34 : List UInt8 := 29 :: t_Sf_otherPasses_35
abbrev t_Sf_otherPasses_31 : List UInt8 := 178 :: 0 :: 78 :: t_Sf_otherPasses_34
abbrev t_Sf_otherPasses_30 : List UInt8 := 172 :: t_Sf_otherPasses_31
abbrev t_Sf_otherPasses_29 : List UInt8 := 3 :: t_Sf_otherPasses_30
abbrev t_Sf_otherPasses_26 : List UInt8 := 160 :: 0 :: 5 :: t_Sf_otherPasses_29
abbrev t_Sf_otherPasses_25 : List UInt8 := 4 :: t_Sf_otherPasses_26
abbrev t_Sf_otherPasses_24 : List UInt8 := 28 :: t_Sf_otherPasses_25
abbrev t_Sf_otherPasses_21 : List UInt8 := 160 :: 0 :: 10 :: t_Sf_otherPasses_24
abbrev t_Sf_otherPasses_20 : List UInt8 := 7 :: t_Sf_otherPasses_21
abbrev t_Sf_otherPasses_19 : List UInt8 := 29 :: t_Sf_otherPasses_20
abbrev t_Sf_otherPasses_16 : List UInt8 := 162 :: 0 :: 13 :: t_Sf_otherPasses_19
abbrev t_Sf_otherPasses_14 : List UInt8 := 16 :: 8 :: t_Sf_otherPasses_16
abbrev t_Sf_otherPasses_13 : List UInt8 := 29 :: t_Sf_otherPasses_14
abbrev t_Sf_otherPasses_12 : List UInt8 := 62 :: t_Sf_otherPasses_13
abbrev t_Sf_otherPasses_11 : List UInt8 := 46 :: t_Sf_otherPasses_12
abbrev t_Sf_otherPasses_10 : List UInt8 := 27 :: t_Sf_otherPasses_11
abbrev t_Sf_otherPasses_7 : List UInt8 := 180 :: 0 :: 75 :: t_Sf_otherPasses_10
abbrev t_Sf_otherPasses_4 : List UInt8 := 180 :: 0 :: 60 :: t_Sf_otherPasses_7
abbrev t_Sf_otherPasses_1 : List UInt8 := 180 :: 0 :: 25 :: t_Sf_otherPasses_4
abbrev t_Sf_otherPasses_0 : List UInt8 := 42 :: t_Sf_otherPasses_1
theorem a_Sf_otherPasses_0 : dk_at b_Sf_otherPasses 0 t_Sf_otherPasses_0 := dk_start (by decide +kernel)
theorem a_Sf_otherPasses_1 : dk_at b_Sf_otherPasses 1 t_Sf_otherPasses_1 := dk_go 1 a_Sf_otherPasses_0 rfl
theorem a_Sf_otherPasses_4 : dk_at b_Sf_otherPasses 4 t_Sf_otherPasses_4 := dk_go 3 a_Sf_otherPasses_1 rfl
theorem a_Sf_otherPasses_7 : dk_at b_Sf_otherPasses 7 t_Sf_otherPasses_7 := dk_go 3 a_Sf_otherPasses_4 rfl
theorem a_Sf_otherPasses_10 : dk_at b_Sf_otherPasses 10 t_Sf_otherPasses_10 := dk_go 3 a_Sf_otherPasses_7 rfl
theorem a_Sf_otherPasses_11 : dk_at b_Sf_otherPasses 11 t_Sf_otherPasses_11 := dk_go 1 a_Sf_otherPasses_10 rfl
theorem a_Sf_otherPasses_12 : dk_at b_Sf_otherPasses 12 t_Sf_otherPasses_12 := dk_go 1 a_Sf_otherPasses_11 rfl
theorem a_Sf_otherPasses_13 : dk_at b_Sf_otherPasses 13 t_Sf_otherPasses_13 := dk_go 1 a_Sf_otherPasses_12 rfl
theorem a_Sf_otherPasses_14 : dk_at b_Sf_otherPasses 14 t_Sf_otherPasses_14 := dk_go 1 a_Sf_otherPasses_13 rfl
theorem a_Sf_otherPasses_16 : dk_at b_Sf_otherPasses 16 t_Sf_otherPasses_16 := dk_go 2 a_Sf_otherPasses_14 rfl
theorem a_Sf_otherPasses_19 : dk_at b_Sf_otherPasses 19 t_Sf_otherPasses_19 := dk_go 3 a_Sf_otherPasses_16 rfl
theorem a_Sf_otherPasses_20 : dk_at b_Sf_otherPasses 20 t_Sf_otherPasses_20 := dk_go 1 a_Sf_otherPasses_19 rfl
theorem a_Sf_otherPasses_21 : dk_at b_Sf_otherPasses 21 t_Sf_otherPasses_21 := dk_go 1 a_Sf_otherPasses_20 rfl
theorem a_Sf_otherPasses_24 : dk_at b_Sf_otherPasses 24 t_Sf_otherPasses_24 := dk_go 3 a_Sf_otherPasses_21 rfl
theorem a_Sf_otherPasses_25 : dk_at b_Sf_otherPasses 25 t_Sf_otherPasses_25 := dk_go 1 a_Sf_otherPasses_24 rfl
theorem a_Sf_otherPasses_26 : dk_at b_Sf_otherPasses 26 t_Sf_otherPasses_26 := dk_go 1 a_Sf_otherPasses_25 rfl
theorem a_Sf_otherPasses_29 : dk_at b_Sf_otherPasses 29 t_Sf_otherPasses_29 := dk_go 3 a_Sf_otherPasses_26 rfl
theorem a_Sf_otherPasses_30 : dk_at b_Sf_otherPasses 30 t_Sf_otherPasses_30 := dk_go 1 a_Sf_otherPasses_29 rfl
theorem a_Sf_otherPasses_31 : dk_at b_Sf_otherPasses 31 t_Sf_otherPasses_31 := dk_go 1 a_Sf_otherPasses_30 rfl
theorem a_Sf_otherPasses_34 : dk_at b_Sf_otherPasses 34 t_Sf_otherPasses_34 := dk_go 3 a_Sf_otherPasses_31 rfl
theorem a_Sf_otherPasses_35 : dk_at b_Sf_otherPasses 35 t_Sf_otherPasses_35 := dk_go 1 a_Sf_otherPasses_34 rfl
theorem a_Sf_otherPasses_37 : dk_at b_Sf_otherPasses 37 t_Sf_otherPasses_37 := dk_go 2 a_Sf_otherPasses_35 rfl
theorem a_Sf_otherPasses_38 : dk_at b_Sf_otherPasses 38 t_Sf_otherPasses_38 := dk_go 1 a_Sf_otherPasses_37 rfl
theorem a_Sf_otherPasses_39 : dk_at b_Sf_otherPasses 39 t_Sf_otherPasses_39 := dk_go 1 a_Sf_otherPasses_38 rfl
theorem a_Sf_otherPasses_42 : dk_at b_Sf_otherPasses 42 t_Sf_otherPasses_42 := dk_go 3 a_Sf_otherPasses_39 rfl
theorem a_Sf_otherPasses_45 : dk_at b_Sf_otherPasses 45 t_Sf_otherPasses_45 := dk_go 3 a_Sf_otherPasses_42 rfl
theorem a_Sf_otherPasses_46 : dk_at b_Sf_otherPasses 46 t_Sf_otherPasses_46 := dk_go 1 a_Sf_otherPasses_45 rfl
theorem a_Sf_otherPasses_47 : dk_at b_Sf_otherPasses 47 t_Sf_otherPasses_47 := dk_go 1 a_Sf_otherPasses_46 rfl
theorem a_Sf_otherPasses_48 : dk_at b_Sf_otherPasses 48 t_Sf_otherPasses_48 := dk_go 1 a_Sf_otherPasses_47 rfl
theorem a_Sf_otherPasses_49 : dk_at b_Sf_otherPasses 49 t_Sf_otherPasses_49 := dk_go 1 a_Sf_otherPasses_48 rfl
theorem a_Sf_otherPasses_51 : dk_at b_Sf_otherPasses 51 t_Sf_otherPasses_51 := dk_go 2 a_Sf_otherPasses_49 rfl
theorem a_Sf_otherPasses_54 : dk_at b_Sf_otherPasses 54 t_Sf_otherPasses_54 := dk_go 3 a_Sf_otherPasses_51 rfl
theorem a_Sf_otherPasses_55 : dk_at b_Sf_otherPasses 55 t_Sf_otherPasses_55 := dk_go 1 a_Sf_otherPasses_54 rfl
theorem a_Sf_otherPasses_57 : dk_at b_Sf_otherPasses 57 t_Sf_otherPasses_57 := dk_go 2 a_Sf_otherPasses_55 rfl
theorem a_Sf_otherPasses_58 : dk_at b_Sf_otherPasses 58 t_Sf_otherPasses_58 := dk_go 1 a_Sf_otherPasses_57 rfl
theorem a_Sf_otherPasses_59 : dk_at b_Sf_otherPasses 59 t_Sf_otherPasses_59 := dk_go 1 a_Sf_otherPasses_58 rfl
theorem a_Sf_otherPasses_60 : dk_at b_Sf_otherPasses 60 t_Sf_otherPasses_60 := dk_go 1 a_Sf_otherPasses_59 rfl
theorem a_Sf_otherPasses_61 : dk_at b_Sf_otherPasses 61 t_Sf_otherPasses_61 := dk_go 1 a_Sf_otherPasses_60 rfl
theorem a_Sf_otherPasses_63 : dk_at b_Sf_otherPasses 63 t_Sf_otherPasses_63 := dk_go 2 a_Sf_otherPasses_61 rfl
theorem a_Sf_otherPasses_65 : dk_at b_Sf_otherPasses 65 t_Sf_otherPasses_65 := dk_go 2 a_Sf_otherPasses_63 rfl
theorem a_Sf_otherPasses_67 : dk_at b_Sf_otherPasses 67 t_Sf_otherPasses_67 := dk_go 2 a_Sf_otherPasses_65 rfl
theorem a_Sf_otherPasses_68 : dk_at b_Sf_otherPasses 68 t_Sf_otherPasses_68 := dk_go 1 a_Sf_otherPasses_67 rfl
theorem a_Sf_otherPasses_69 : dk_at b_Sf_otherPasses 69 t_Sf_otherPasses_69 := dk_go 1 a_Sf_otherPasses_68 rfl
theorem a_Sf_otherPasses_70 : dk_at b_Sf_otherPasses 70 t_Sf_otherPasses_70 := dk_go 1 a_Sf_otherPasses_69 rfl
theorem a_Sf_otherPasses_73 : dk_at b_Sf_otherPasses 73 t_Sf_otherPasses_73 := dk_go 3 a_Sf_otherPasses_70 rfl
theorem a_Sf_otherPasses_74 : dk_at b_Sf_otherPasses 74 t_Sf_otherPasses_74 := dk_go 1 a_Sf_otherPasses_73 rfl
theorem a_Sf_otherPasses_77 : dk_at b_Sf_otherPasses 77 t_Sf_otherPasses_77 := dk_go 3 a_Sf_otherPasses_74 rfl
theorem a_Sf_otherPasses_80 : dk_at b_Sf_otherPasses 80 t_Sf_otherPasses_80 := dk_go 3 a_Sf_otherPasses_77 rfl
theorem a_Sf_otherPasses_83 : dk_at b_Sf_otherPasses 83 t_Sf_otherPasses_83 := dk_go 3 a_Sf_otherPasses_80 rfl
theorem a_Sf_otherPasses_84 : dk_at b_Sf_otherPasses 84 t_Sf_otherPasses_84 := dk_go 1 a_Sf_otherPasses_83 rfl
theorem a_Sf_otherPasses_85 : dk_at b_Sf_otherPasses 85 t_Sf_otherPasses_85 := dk_go 1 a_Sf_otherPasses_84 rfl
theorem a_Sf_otherPasses_86 : dk_at b_Sf_otherPasses 86 t_Sf_otherPasses_86 := dk_go 1 a_Sf_otherPasses_85 rfl
theorem a_Sf_otherPasses_89 : dk_at b_Sf_otherPasses 89 t_Sf_otherPasses_89 := dk_go 3 a_Sf_otherPasses_86 rfl
theorem a_Sf_otherPasses_90 : dk_at b_Sf_otherPasses 90 t_Sf_otherPasses_90 := dk_go 1 a_Sf_otherPasses_89 rfl
theorem a_Sf_otherPasses_91 : dk_at b_Sf_otherPasses 91 t_Sf_otherPasses_91 := dk_go 1 a_Sf_otherPasses_90 rfl
theorem a_Sf_otherPasses_94 : dk_at b_Sf_otherPasses 94 t_Sf_otherPasses_94 := dk_go 3 a_Sf_otherPasses_91 rfl
theorem a_Sf_otherPasses_96 : dk_at b_Sf_otherPasses 96 t_Sf_otherPasses_96 := dk_go 2 a_Sf_otherPasses_94 rfl
theorem a_Sf_otherPasses_99 : dk_at b_Sf_otherPasses 99 t_Sf_otherPasses_99 := dk_go 3 a_Sf_otherPasses_96 rfl
theorem a_Sf_otherPasses_100 : dk_at b_Sf_otherPasses 100 t_Sf_otherPasses_100 := dk_go 1 a_Sf_otherPasses_99 rfl
theorem d_Sf_otherPasses_0 : decode b_Sf_otherPasses 0 = .ok (.aload_n 0, 1) := dk_0 a_Sf_otherPasses_0 (dko_42 _)
theorem d_Sf_otherPasses_1 : decode b_Sf_otherPasses 1 = .ok (.getfield 25, 3) := dk_U2 a_Sf_otherPasses_1 (dko_180 _) rfl
theorem d_Sf_otherPasses_4 : decode b_Sf_otherPasses 4 = .ok (.getfield 60, 3) := dk_U2 a_Sf_otherPasses_4 (dko_180 _) rfl
theorem d_Sf_otherPasses_7 : decode b_Sf_otherPasses 7 = .ok (.getfield 75, 3) := dk_U2 a_Sf_otherPasses_7 (dko_180 _) rfl
theorem d_Sf_otherPasses_10 : decode b_Sf_otherPasses 10 = .ok (.iload_n 1, 1) := dk_0 a_Sf_otherPasses_10 (dko_27 _)
theorem d_Sf_otherPasses_11 : decode b_Sf_otherPasses 11 = .ok (.iaload, 1) := dk_0 a_Sf_otherPasses_11 (dko_46 _)
theorem d_Sf_otherPasses_12 : decode b_Sf_otherPasses 12 = .ok (.istore_n 3, 1) := dk_0 a_Sf_otherPasses_12 (dko_62 _)
theorem d_Sf_otherPasses_13 : decode b_Sf_otherPasses 13 = .ok (.iload_n 3, 1) := dk_0 a_Sf_otherPasses_13 (dko_29 _)
theorem d_Sf_otherPasses_14 : decode b_Sf_otherPasses 14 = .ok (.bipush 8, 2) := dk_S1 a_Sf_otherPasses_14 (dko_16 _) (by decide +kernel)
theorem d_Sf_otherPasses_16 : decode b_Sf_otherPasses 16 = .ok (.if_icmp .ge 13, 3) := dk_S2 a_Sf_otherPasses_16 (dko_162 _) (by decide +kernel)
theorem d_Sf_otherPasses_19 : decode b_Sf_otherPasses 19 = .ok (.iload_n 3, 1) := dk_0 a_Sf_otherPasses_19 (dko_29 _)
theorem d_Sf_otherPasses_20 : decode b_Sf_otherPasses 20 = .ok (.iconst 4, 1) := dk_0 a_Sf_otherPasses_20 (dko_7 _)
theorem d_Sf_otherPasses_21 : decode b_Sf_otherPasses 21 = .ok (.if_icmp .ne 10, 3) := dk_S2 a_Sf_otherPasses_21 (dko_160 _) (by decide +kernel)
theorem d_Sf_otherPasses_24 : decode b_Sf_otherPasses 24 = .ok (.iload_n 2, 1) := dk_0 a_Sf_otherPasses_24 (dko_28 _)
theorem d_Sf_otherPasses_25 : decode b_Sf_otherPasses 25 = .ok (.iconst 1, 1) := dk_0 a_Sf_otherPasses_25 (dko_4 _)
theorem d_Sf_otherPasses_26 : decode b_Sf_otherPasses 26 = .ok (.if_icmp .ne 5, 3) := dk_S2 a_Sf_otherPasses_26 (dko_160 _) (by decide +kernel)
theorem d_Sf_otherPasses_29 : decode b_Sf_otherPasses 29 = .ok (.iconst 0, 1) := dk_0 a_Sf_otherPasses_29 (dko_3 _)
theorem d_Sf_otherPasses_30 : decode b_Sf_otherPasses 30 = .ok (.ireturn, 1) := dk_0 a_Sf_otherPasses_30 (dko_172 _)
theorem d_Sf_otherPasses_31 : decode b_Sf_otherPasses 31 = .ok (.getstatic 78, 3) := dk_U2 a_Sf_otherPasses_31 (dko_178 _) rfl
theorem d_Sf_otherPasses_34 : decode b_Sf_otherPasses 34 = .ok (.iload_n 3, 1) := dk_0 a_Sf_otherPasses_34 (dko_29 _)
theorem d_Sf_otherPasses_35 : decode b_Sf_otherPasses 35 = .ok (.bipush 10, 2) := dk_S1 a_Sf_otherPasses_35 (dko_16 _) (by decide +kernel)
theorem d_Sf_otherPasses_37 : decode b_Sf_otherPasses 37 = .ok (.imul, 1) := dk_0 a_Sf_otherPasses_37 (dko_104 _)
theorem d_Sf_otherPasses_38 : decode b_Sf_otherPasses 38 = .ok (.aload_n 0, 1) := dk_0 a_Sf_otherPasses_38 (dko_42 _)
theorem d_Sf_otherPasses_39 : decode b_Sf_otherPasses 39 = .ok (.getfield 25, 3) := dk_U2 a_Sf_otherPasses_39 (dko_180 _) rfl
theorem d_Sf_otherPasses_42 : decode b_Sf_otherPasses 42 = .ok (.getfield 81, 3) := dk_U2 a_Sf_otherPasses_42 (dko_180 _) rfl
theorem d_Sf_otherPasses_45 : decode b_Sf_otherPasses 45 = .ok (.iload_n 1, 1) := dk_0 a_Sf_otherPasses_45 (dko_27 _)
theorem d_Sf_otherPasses_46 : decode b_Sf_otherPasses 46 = .ok (.iaload, 1) := dk_0 a_Sf_otherPasses_46 (dko_46 _)
theorem d_Sf_otherPasses_47 : decode b_Sf_otherPasses 47 = .ok (.iadd, 1) := dk_0 a_Sf_otherPasses_47 (dko_96 _)
theorem d_Sf_otherPasses_48 : decode b_Sf_otherPasses 48 = .ok (.iaload, 1) := dk_0 a_Sf_otherPasses_48 (dko_46 _)
theorem d_Sf_otherPasses_49 : decode b_Sf_otherPasses 49 = .ok (.istore 4, 2) := dk_U1 a_Sf_otherPasses_49 (dko_54 _) rfl
theorem d_Sf_otherPasses_51 : decode b_Sf_otherPasses 51 = .ok (.getstatic 78, 3) := dk_U2 a_Sf_otherPasses_51 (dko_178 _) rfl
theorem d_Sf_otherPasses_54 : decode b_Sf_otherPasses 54 = .ok (.iload_n 3, 1) := dk_0 a_Sf_otherPasses_54 (dko_29 _)
theorem d_Sf_otherPasses_55 : decode b_Sf_otherPasses 55 = .ok (.bipush 10, 2) := dk_S1 a_Sf_otherPasses_55 (dko_16 _) (by decide +kernel)
theorem d_Sf_otherPasses_57 : decode b_Sf_otherPasses 57 = .ok (.imul, 1) := dk_0 a_Sf_otherPasses_57 (dko_104 _)
theorem d_Sf_otherPasses_58 : decode b_Sf_otherPasses 58 = .ok (.iload_n 2, 1) := dk_0 a_Sf_otherPasses_58 (dko_28 _)
theorem d_Sf_otherPasses_59 : decode b_Sf_otherPasses 59 = .ok (.iadd, 1) := dk_0 a_Sf_otherPasses_59 (dko_96 _)
theorem d_Sf_otherPasses_60 : decode b_Sf_otherPasses 60 = .ok (.iaload, 1) := dk_0 a_Sf_otherPasses_60 (dko_46 _)
theorem d_Sf_otherPasses_61 : decode b_Sf_otherPasses 61 = .ok (.istore 5, 2) := dk_U1 a_Sf_otherPasses_61 (dko_54 _) rfl
theorem d_Sf_otherPasses_63 : decode b_Sf_otherPasses 63 = .ok (.iload 5, 2) := dk_U1 a_Sf_otherPasses_63 (dko_21 _) rfl
theorem d_Sf_otherPasses_65 : decode b_Sf_otherPasses 65 = .ok (.iload 4, 2) := dk_U1 a_Sf_otherPasses_65 (dko_21 _) rfl
theorem d_Sf_otherPasses_67 : decode b_Sf_otherPasses 67 = .ok (.iconst (-1), 1) := dk_0 a_Sf_otherPasses_67 (dko_2 _)
theorem d_Sf_otherPasses_68 : decode b_Sf_otherPasses 68 = .ok (.ixor, 1) := dk_0 a_Sf_otherPasses_68 (dko_130 _)
theorem d_Sf_otherPasses_69 : decode b_Sf_otherPasses 69 = .ok (.iand, 1) := dk_0 a_Sf_otherPasses_69 (dko_126 _)
theorem d_Sf_otherPasses_70 : decode b_Sf_otherPasses 70 = .ok (.getstatic 84, 3) := dk_U2 a_Sf_otherPasses_70 (dko_178 _) rfl
theorem d_Sf_otherPasses_73 : decode b_Sf_otherPasses 73 = .ok (.aload_n 0, 1) := dk_0 a_Sf_otherPasses_73 (dko_42 _)
theorem d_Sf_otherPasses_74 : decode b_Sf_otherPasses 74 = .ok (.getfield 25, 3) := dk_U2 a_Sf_otherPasses_74 (dko_180 _) rfl
theorem d_Sf_otherPasses_77 : decode b_Sf_otherPasses 77 = .ok (.getfield 60, 3) := dk_U2 a_Sf_otherPasses_77 (dko_180 _) rfl
theorem d_Sf_otherPasses_80 : decode b_Sf_otherPasses 80 = .ok (.getfield 87, 3) := dk_U2 a_Sf_otherPasses_80 (dko_180 _) rfl
theorem d_Sf_otherPasses_83 : decode b_Sf_otherPasses 83 = .ok (.iload_n 1, 1) := dk_0 a_Sf_otherPasses_83 (dko_27 _)
theorem d_Sf_otherPasses_84 : decode b_Sf_otherPasses 84 = .ok (.iaload, 1) := dk_0 a_Sf_otherPasses_84 (dko_46 _)
theorem d_Sf_otherPasses_85 : decode b_Sf_otherPasses 85 = .ok (.iconst 4, 1) := dk_0 a_Sf_otherPasses_85 (dko_7 _)
theorem d_Sf_otherPasses_86 : decode b_Sf_otherPasses 86 = .ok (.invokestatic 90, 3) := dk_U2 a_Sf_otherPasses_86 (dko_184 _) rfl
theorem d_Sf_otherPasses_89 : decode b_Sf_otherPasses 89 = .ok (.iaload, 1) := dk_0 a_Sf_otherPasses_89 (dko_46 _)
theorem d_Sf_otherPasses_90 : decode b_Sf_otherPasses 90 = .ok (.iand, 1) := dk_0 a_Sf_otherPasses_90 (dko_126 _)
theorem d_Sf_otherPasses_91 : decode b_Sf_otherPasses 91 = .ok (.ifCond .eq 8, 3) := dk_S2 a_Sf_otherPasses_91 (dko_153 _) (by decide +kernel)
theorem d_Sf_otherPasses_94 : decode b_Sf_otherPasses 94 = .ok (.iload 5, 2) := dk_U1 a_Sf_otherPasses_94 (dko_21 _) rfl
theorem d_Sf_otherPasses_96 : decode b_Sf_otherPasses 96 = .ok (.goto 4, 3) := dk_S2 a_Sf_otherPasses_96 (dko_167 _) (by decide +kernel)
theorem d_Sf_otherPasses_99 : decode b_Sf_otherPasses 99 = .ok (.iconst 0, 1) := dk_0 a_Sf_otherPasses_99 (dko_3 _)
theorem d_Sf_otherPasses_100 : decode b_Sf_otherPasses 100 = .ok (.ireturn, 1) := dk_0 a_Sf_otherPasses_100 (dko_172 _)
set_option maxHeartbeats 4000000 in
set_option maxRecDepth 100000 in
theorem ok_Sf_otherPasses (pc : Nat) : OpS mt mi_Sf_otherPasses pc (cs_Sf_otherPasses pc) := (os_n (os_n (os_n (os_n (os_n (os_l (so_aload_n d_Sf_otherPasses_0 rfl)) (os_n (os_l (so_get (C := R_Sf) (T := F_Sf) (N := 10) (j := 0) in_Sf rfl (by decide) mw_282 d_Sf_otherPasses_1)) (os_l (so_get (C := R_St) (T := F_St) (N := 12) (j := 0) in_St rfl (by decide) mw_150 d_Sf_otherPasses_4)))) (os_n (os_n (os_l (so_get (C := R_Pl) (T := F_Pl) (N := 12) (j := 2) in_Pl rfl (by decide) mw_97 d_Sf_otherPasses_7)) (os_l (so_iload_n d_Sf_otherPasses_10 rfl))) (os_n (os_l (so_iaload d_Sf_otherPasses_11)) (os_l (so_istore_n d_Sf_otherPasses_12 rfl (by decide)))))) (os_n (os_n (os_l (so_iload_n d_Sf_otherPasses_13 rfl)) (os_n (os_l (so_bipush d_Sf_otherPasses_14 (by decide))) (os_l (so_icge d_Sf_otherPasses_16 (by decide))))) (os_n (os_n (os_l (so_iload_n d_Sf_otherPasses_19 rfl)) (os_l (so_iconst d_Sf_otherPasses_20 (by decide)))) (os_n (os_l (so_icne d_Sf_otherPasses_21 (by decide))) (os_l (so_iload_n d_Sf_otherPasses_24 rfl)))))) (os_n (os_n (os_n (os_l (so_iconst d_Sf_otherPasses_25 (by decide))) (os_n (os_l (so_icne d_Sf_otherPasses_26 (by decide))) (os_l (so_iconst d_Sf_otherPasses_29 (by decide))))) (os_n (os_n (os_l (so_ireturn rfl d_Sf_otherPasses_30)) (os_l (so_gsN (fun _ _ _ _ h => h.2.1.1) nw_1109 d_Sf_otherPasses_31))) (os_n (os_l (so_iload_n d_Sf_otherPasses_34 rfl)) (os_l (so_bipush d_Sf_otherPasses_35 (by decide)))))) (os_n (os_n (os_n (os_l (so_imul d_Sf_otherPasses_37)) (os_l (so_aload_n d_Sf_otherPasses_38 rfl))) (os_n (os_l (so_get (C := R_Sf) (T := F_Sf) (N := 10) (j := 0) in_Sf rfl (by decide) mw_282 d_Sf_otherPasses_39)) (os_l (so_get (C := R_St) (T := F_St) (N := 12) (j := 2) in_St rfl (by decide) mw_158 d_Sf_otherPasses_42)))) (os_n (os_n (os_l (so_iload_n d_Sf_otherPasses_45 rfl)) (os_l (so_iaload d_Sf_otherPasses_46))) (os_n (os_l (so_iadd d_Sf_otherPasses_47)) (os_l (so_iaload d_Sf_otherPasses_48))))))) (os_n (os_n (os_n (os_n (os_l (so_istore d_Sf_otherPasses_49 (by decide))) (os_n (os_l (so_gsN (fun _ _ _ _ h => h.2.1.1) nw_1109 d_Sf_otherPasses_51)) (os_l (so_iload_n d_Sf_otherPasses_54 rfl)))) (os_n (os_n (os_l (so_bipush d_Sf_otherPasses_55 (by decide))) (os_l (so_imul d_Sf_otherPasses_57))) (os_n (os_l (so_iload_n d_Sf_otherPasses_58 rfl)) (os_l (so_iadd d_Sf_otherPasses_59))))) (os_n (os_n (os_n (os_l (so_iaload d_Sf_otherPasses_60)) (os_l (so_istore d_Sf_otherPasses_61 (by decide)))) (os_n (os_l (so_iload d_Sf_otherPasses_63)) (os_l (so_iload d_Sf_otherPasses_65)))) (os_n (os_n (os_l (so_iconst d_Sf_otherPasses_67 (by decide))) (os_l (so_ixor d_Sf_otherPasses_68))) (os_n (os_l (so_iand d_Sf_otherPasses_69)) (os_l (so_gs (fun _ _ _ _ h => h.2.2.1.1) mw_1126 d_Sf_otherPasses_70)))))) (os_n (os_n (os_n (os_l (so_aload_n d_Sf_otherPasses_73 rfl)) (os_n (os_l (so_get (C := R_Sf) (T := F_Sf) (N := 10) (j := 0) in_Sf rfl (by decide) mw_282 d_Sf_otherPasses_74)) (os_l (so_get (C := R_St) (T := F_St) (N := 12) (j := 0) in_St rfl (by decide) mw_150 d_Sf_otherPasses_77)))) (os_n (os_n (os_l (so_get (C := R_Pl) (T := F_Pl) (N := 12) (j := 4) in_Pl rfl (by decide) mw_104 d_Sf_otherPasses_80)) (os_l (so_iload_n d_Sf_otherPasses_83 rfl))) (os_n (os_l (so_iaload d_Sf_otherPasses_84)) (os_l (so_iconst d_Sf_otherPasses_85 (by decide)))))) (os_n (os_n (os_n (os_l (so_callS (iv := mi_Ma_min) rfl mw_1128 mw_963 mw_21 mw_964 ⟨by decide +kernel, by decide +kernel, by decide +kernel⟩ (by decide) d_Sf_otherPasses_86)) (os_l (so_iaload d_Sf_otherPasses_89))) (os_n (os_l (so_iand d_Sf_otherPasses_90)) (os_l (so_ifeq d_Sf_otherPasses_91 (by decide))))) (os_n (os_n (os_l (so_iload d_Sf_otherPasses_94)) (os_l (so_goto d_Sf_otherPasses_96 (by decide)))) (os_n (os_l (so_iconst d_Sf_otherPasses_99 (by decide))) (os_l (so_ireturn rfl d_Sf_otherPasses_100))))))))
abbrev t_Sf_findRivals_170 : List UInt8 := 172 :: []
abbrev t_Sf_findRivals_169 : List UInt8 := 28 :: t_Sf_findRivals_170
abbrev t_Sf_findRivals_166 : List UInt8 := 167 :: 255 :: 184 :: t_Sf_findRivals_169
abbrev t_Sf_findRivals_163 : List UInt8 := 132 :: 3 :: 1 :: t_Sf_findRivals_166
abbrev t_Sf_findRivals_162 : List UInt8 := 61 :: t_Sf_findRivals_163
abbrev t_Sf_findRivals_161 : List UInt8 := 3 :: t_Sf_findRivals_162
abbrev t_Sf_findRivals_158 : List UInt8 := 167 :: 0 :: 4 :: t_Sf_findRivals_161
abbrev t_Sf_findRivals_157 : List UInt8 := 4 :: t_Sf_findRivals_158
abbrev t_Sf_findRivals_154 : List UInt8 := 153 :: 0 :: 7 :: t_Sf_findRivals_157
abbrev t_Sf_findRivals_153 : List UInt8 := 46 :: t_Sf_findRivals_154
abbrev t_Sf_findRivals_152 : List UInt8 := 29 :: t_Sf_findRivals_153
abbrev t_Sf_findRivals_149 : List UInt8 := 180 :: 0 :: 15 :: t_Sf_findRivals_152
abbrev t_Sf_findRivals_148 : List UInt8 := 42 :: t_Sf_findRivals_149
abbrev t_Sf_findRivals_145 : List UInt8 := 154 :: 0 :: 12 :: t_Sf_findRivals_148
abbrev t_Sf_findRivals_144 : List UInt8 := 28 :: t_Sf_findRivals_145
abbrev t_Sf_findRivals_143 : List UInt8 := 79 :: t_Sf_findRivals_144
abbrev t_Sf_findRivals_142 : List UInt8 := 3 :: t_Sf_findRivals_143
abbrev t_Sf_findRivals_139 : List UInt8 := 167 :: 0 :: 4 :: t_Sf_findRivals_142
abbrev t_Sf_findRivals_137 : List UInt8 := 21 :: 4 :: t_Sf_findRivals_139
abbrev t_Sf_findRivals_134 : List UInt8 := 153 :: 0 :: 8 :: t_Sf_findRivals_137
abbrev t_Sf_findRivals_133 : List UInt8 := 148 :: t_Sf_findRivals_134
abbrev t_Sf_findRivals_132 : List UInt8 := 9 :: t_Sf_findRivals_133
abbrev t_Sf_findRivals_131 : List UInt8 := 47 :: t_Sf_findRivals_132
abbrev t_Sf_findRivals_130 : List UInt8 := 29 :: t_Sf_findRivals_131
abbrev t_Sf_findRivals_127 : List UInt8 := 180 :: 0 :: 9 :: t_Sf_findRivals_130
abbrev t_Sf_findRivals_126 : List UInt8 := 42 :: t_Sf_findRivals_127
abbrev t_Sf_findRivals_125 : List UInt8 := 29 :: t_Sf_findRivals_126
abbrev t_Sf_findRivals_122 : List UInt8 := 180 :: 0 :: 15 :: t_Sf_findRivals_125
abbrev t_Sf_findRivals_121 : List UInt8 := 42 :: t_Sf_findRivals_122
abbrev t_Sf_findRivals_119 : List UInt8 := 54 :: 4 :: t_Sf_findRivals_121
abbrev t_Sf_findRivals_118 : List UInt8 := 126 :: t_Sf_findRivals_119
abbrev t_Sf_findRivals_117 : List UInt8 := 130 :: t_Sf_findRivals_118
abbrev t_Sf_findRivals_116 : List UInt8 := 2 :: t_Sf_findRivals_117
abbrev t_Sf_findRivals_115 : List UInt8 := 120 :: t_Sf_findRivals_116
abbrev t_Sf_findRivals_114 : List UInt8 := 29 :: t_Sf_findRivals_115
abbrev t_Sf_findRivals_113 : List UInt8 := 4 :: t_Sf_findRivals_114
abbrev t_Sf_findRivals_112 : List UInt8 := 126 :: t_Sf_findRivals_113
abbrev t_Sf_findRivals_111 : List UInt8 := 130 :: t_Sf_findRivals_112
abbrev t_Sf_findRivals_110 : List UInt8 := 2 :: t_Sf_findRivals_111
abbrev t_Sf_findRivals_109 : List UInt8 := 46 :: t_Sf_findRivals_110
abbrev t_Sf_findRivals_108 : List UInt8 := 29 :: t_Sf_findRivals_109
abbrev t_Sf_findRivals_105 : List UInt8 := 180 :: 0 :: 101 :: t_Sf_findRivals_108
abbrev t_Sf_findRivals_102 : List UInt8 := 180 :: 0 :: 25 :: t_Sf_findRivals_105
abbrev t_Sf_findRivals_101 : List UInt8 := 42 :: t_Sf_findRivals_102
abbrev t_Sf_findRivals_100 : List UInt8 := 27 :: t_Sf_findRivals_101
abbrev t_Sf_findRivals_97 : List UInt8 := 163 :: 0 :: 72 :: t_Sf_findRivals_100
abbrev t_Sf_findRivals_95 : List UInt8 := 16 :: 14 :: t_Sf_findRivals_97
abbrev t_Sf_findRivals_94 : List UInt8 := 29 :: t_Sf_findRivals_95
abbrev t_Sf_findRivals_93 : List UInt8 := 62 :: t_Sf_findRivals_94
abbrev t_Sf_findRivals_92 : List UInt8 := 4 :: t_Sf_findRivals_93
abbrev t_Sf_findRivals_91 : List UInt8 := 61 :: t_Sf_findRivals_92
abbrev t_Sf_findRivals_90 : List UInt8 := 3 :: t_Sf_findRivals_91
abbrev t_Sf_findRivals_87 : List UInt8 := 167 :: 255 :: 226 :: t_Sf_findRivals_90
abbrev t_Sf_findRivals_84 : List UInt8 := 132 :: 2 :: 1 :: t_Sf_findRivals_87
abbrev t_Sf_findRivals_83 : List UInt8 := 60 :: t_Sf_findRivals_84
abbrev t_Sf_findRivals_82 : List UInt8 := 128 :: t_Sf_findRivals_83
abbrev t_Sf_findRivals_81 : List UInt8 := 3 :: t_Sf_findRivals_82
abbrev t_Sf_findRivals_78 : List UInt8 := 167 :: 0 :: 4 :: t_Sf_findRivals_81
abbrev t_Sf_findRivals_77 : List UInt8 := 120 :: t_Sf_findRivals_78
abbrev t_Sf_findRivals_76 : List UInt8 := 28 :: t_Sf_findRivals_77
abbrev t_Sf_findRivals_75 : List UInt8 := 4 :: t_Sf_findRivals_76
abbrev t_Sf_findRivals_72 : List UInt8 := 153 :: 0 :: 9 :: t_Sf_findRivals_75
abbrev t_Sf_findRivals_71 : List UInt8 := 148 :: t_Sf_findRivals_72
abbrev t_Sf_findRivals_70 : List UInt8 := 9 :: t_Sf_findRivals_71
abbrev t_Sf_findRivals_69 : List UInt8 := 47 :: t_Sf_findRivals_70
abbrev t_Sf_findRivals_68 : List UInt8 := 28 :: t_Sf_findRivals_69
abbrev t_Sf_findRivals_65 : List UInt8 := 180 :: 0 :: 9 :: t_Sf_findRivals_68
abbrev t_Sf_findRivals_64 : List UInt8 := 42 :: t_Sf_findRivals_65
abbrev t_Sf_findRivals_63 : List UInt8 := 27 :: t_Sf_findRivals_64
abbrev t_Sf_findRivals_60 : List UInt8 := 163 :: 0 :: 30 :: t_Sf_findRivals_63
abbrev t_Sf_findRivals_58 : List UInt8 := 16 :: 14 :: t_Sf_findRivals_60
abbrev t_Sf_findRivals_57 : List UInt8 := 28 :: t_Sf_findRivals_58
abbrev t_Sf_findRivals_56 : List UInt8 := 61 :: t_Sf_findRivals_57
abbrev t_Sf_findRivals_55 : List UInt8 := 4 :: t_Sf_findRivals_56
abbrev t_Sf_findRivals_54 : List UInt8 := 60 :: t_Sf_findRivals_55
abbrev t_Sf_findRivals_53 : List UInt8 := 3 :: t_Sf_findRivals_54
abbrev t_Sf_findRivals_50 : List UInt8 := 167 :: 255 :: 208 :: t_Sf_findRivals_53
abbrev t_Sf_findRivals_47 : List UInt8 := 132 :: 1 :: 1 :: t_Sf_findRivals_50
abbrev t_Sf_findRivals_46 : List UInt8 := 80 :: t_Sf_findRivals_47
abbrev t_Sf_findRivals_45 : List UInt8 := 129 :: t_Sf_findRivals_46
abbrev t_Sf_findRivals_44 : List UInt8 := 121 :: t_Sf_findRivals_45
abbrev t_Sf_findRivals_43 : List UInt8 := 27 :: t_Sf_findRivals_44
abbrev t_Sf_findRivals_42 : List UInt8 := 10 :: t_Sf_findRivals_43
abbrev t_Sf_findRivals_41 : List UInt8 := 47 :: t_Sf_findRivals_42
abbrev t_Sf_findRivals_40 : List UInt8 := 92 :: t_Sf_findRivals_41
abbrev t_Sf_findRivals_39 : List UInt8 := 46 :: t_Sf_findRivals_40
abbrev t_Sf_findRivals_38 : List UInt8 := 27 :: t_Sf_findRivals_39
abbrev t_Sf_findRivals_35 : List UInt8 := 180 :: 0 :: 98 :: t_Sf_findRivals_38
abbrev t_Sf_findRivals_32 : List UInt8 := 180 :: 0 :: 25 :: t_Sf_findRivals_35
abbrev t_Sf_findRivals_31 : List UInt8 := 42 :: t_Sf_findRivals_32
abbrev t_Sf_findRivals_28 : List UInt8 := 180 :: 0 :: 9 :: t_Sf_findRivals_31
abbrev t_Sf_findRivals_27 : List UInt8 := 42 :: t_Sf_findRivals_28
abbrev t_Sf_findRivals_24 : List UInt8 := 162 :: 0 :: 29 :: t_Sf_findRivals_27
abbrev t_Sf_findRivals_23 : List UInt8 := 96 :: t_Sf_findRivals_24
abbrev t_Sf_findRivals_20 : List UInt8 := 180 :: 0 :: 95 :: t_Sf_findRivals_23
abbrev t_Sf_findRivals_17 : List UInt8 := 180 :: 0 :: 60 :: t_Sf_findRivals_20
abbrev t_Sf_findRivals_14 : List UInt8 := 180 :: 0 :: 25 :: t_Sf_findRivals_17
abbrev t_Sf_findRivals_13 : List UInt8 := 42 :: t_Sf_findRivals_14
abbrev t_Sf_findRivals_10 : List UInt8 := 180 :: 0 :: 66 :: t_Sf_findRivals_13
abbrev t_Sf_findRivals_7 : List UInt8 := 180 :: 0 :: 60 :: t_Sf_findRivals_10
abbrev t_Sf_findRivals_4 : List UInt8 := 180 :: 0 :: 25 :: t_Sf_findRivals_7
abbrev t_Sf_findRivals_3 : List UInt8 := 42 :: t_Sf_findRivals_4
abbrev t_Sf_findRivals_2 : List UInt8 := 27 :: t_Sf_findRivals_3
abbrev t_Sf_findRivals_1 : List UInt8 := 60 :: t_Sf_findRivals_2
abbrev t_Sf_findRivals_0 : List UInt8 := 3 :: t_Sf_findRivals_1
theorem a_Sf_findRivals_0 : dk_at b_Sf_findRivals 0 t_Sf_findRivals_0 := dk_start (by decide +kernel)
theorem a_Sf_findRivals_1 : dk_at b_Sf_findRivals 1 t_Sf_findRivals_1 := dk_go 1 a_Sf_findRivals_0 rfl
theorem a_Sf_findRivals_2 : dk_at b_Sf_findRivals 2 t_Sf_findRivals_2 := dk_go 1 a_Sf_findRivals_1 rfl
theorem a_Sf_findRivals_3 : dk_at b_Sf_findRivals 3 t_Sf_findRivals_3 := dk_go 1 a_Sf_findRivals_2 rfl
theorem a_Sf_findRivals_4 : dk_at b_Sf_findRivals 4 t_Sf_findRivals_4 := dk_go 1 a_Sf_findRivals_3 rfl
theorem a_Sf_findRivals_7 : dk_at b_Sf_findRivals 7 t_Sf_findRivals_7 := dk_go 3 a_Sf_findRivals_4 rfl
theorem a_Sf_findRivals_10 : dk_at b_Sf_findRivals 10 t_Sf_findRivals_10 := dk_go 3 a_Sf_findRivals_7 rfl
theorem a_Sf_findRivals_13 : dk_at b_Sf_findRivals 13 t_Sf_findRivals_13 := dk_go 3 a_Sf_findRivals_10 rfl
theorem a_Sf_findRivals_14 : dk_at b_Sf_findRivals 14 t_Sf_findRivals_14 := dk_go 1 a_Sf_findRivals_13 rfl
theorem a_Sf_findRivals_17 : dk_at b_Sf_findRivals 17 t_Sf_findRivals_17 := dk_go 3 a_Sf_findRivals_14 rfl
theorem a_Sf_findRivals_20 : dk_at b_Sf_findRivals 20 t_Sf_findRivals_20 := dk_go 3 a_Sf_findRivals_17 rfl
theorem a_Sf_findRivals_23 : dk_at b_Sf_findRivals 23 t_Sf_findRivals_23 := dk_go 3 a_Sf_findRivals_20 rfl
theorem a_Sf_findRivals_24 : dk_at b_Sf_findRivals 24 t_Sf_findRivals_24 := dk_go 1 a_Sf_findRivals_23 rfl
theorem a_Sf_findRivals_27 : dk_at b_Sf_findRivals 27 t_Sf_findRivals_27 := dk_go 3 a_Sf_findRivals_24 rfl
theorem a_Sf_findRivals_28 : dk_at b_Sf_findRivals 28 t_Sf_findRivals_28 := dk_go 1 a_Sf_findRivals_27 rfl
theorem a_Sf_findRivals_31 : dk_at b_Sf_findRivals 31 t_Sf_findRivals_31 := dk_go 3 a_Sf_findRivals_28 rfl
theorem a_Sf_findRivals_32 : dk_at b_Sf_findRivals 32 t_Sf_findRivals_32 := dk_go 1 a_Sf_findRivals_31 rfl
theorem a_Sf_findRivals_35 : dk_at b_Sf_findRivals 35 t_Sf_findRivals_35 := dk_go 3 a_Sf_findRivals_32 rfl
theorem a_Sf_findRivals_38 : dk_at b_Sf_findRivals 38 t_Sf_findRivals_38 := dk_go 3 a_Sf_findRivals_35 rfl
theorem a_Sf_findRivals_39 : dk_at b_Sf_findRivals 39 t_Sf_findRivals_39 := dk_go 1 a_Sf_findRivals_38 rfl
theorem a_Sf_findRivals_40 : dk_at b_Sf_findRivals 40 t_Sf_findRivals_40 := dk_go 1 a_Sf_findRivals_39 rfl
theorem a_Sf_findRivals_41 : dk_at b_Sf_findRivals 41 t_Sf_findRivals_41 := dk_go 1 a_Sf_findRivals_40 rfl
theorem a_Sf_findRivals_42 : dk_at b_Sf_findRivals 42 t_Sf_findRivals_42 := dk_go 1 a_Sf_findRivals_41 rfl
theorem a_Sf_findRivals_43 : dk_at b_Sf_findRivals 43 t_Sf_findRivals_43 := dk_go 1 a_Sf_findRivals_42 rfl
theorem a_Sf_findRivals_44 : dk_at b_Sf_findRivals 44 t_Sf_findRivals_44 := dk_go 1 a_Sf_findRivals_43 rfl
theorem a_Sf_findRivals_45 : dk_at b_Sf_findRivals 45 t_Sf_findRivals_45 := dk_go 1 a_Sf_findRivals_44 rfl
theorem a_Sf_findRivals_46 : dk_at b_Sf_findRivals 46 t_Sf_findRivals_46 := dk_go 1 a_Sf_findRivals_45 rfl
theorem a_Sf_findRivals_47 : dk_at b_Sf_findRivals 47 t_Sf_findRivals_47 := dk_go 1 a_Sf_findRivals_46 rfl
theorem a_Sf_findRivals_50 : dk_at b_Sf_findRivals 50 t_Sf_findRivals_50 := dk_go 3 a_Sf_findRivals_47 rfl
theorem a_Sf_findRivals_53 : dk_at b_Sf_findRivals 53 t_Sf_findRivals_53 := dk_go 3 a_Sf_findRivals_50 rfl
theorem a_Sf_findRivals_54 : dk_at b_Sf_findRivals 54 t_Sf_findRivals_54 := dk_go 1 a_Sf_findRivals_53 rfl
theorem a_Sf_findRivals_55 : dk_at b_Sf_findRivals 55 t_Sf_findRivals_55 := dk_go 1 a_Sf_findRivals_54 rfl
theorem a_Sf_findRivals_56 : dk_at b_Sf_findRivals 56 t_Sf_findRivals_56 := dk_go 1 a_Sf_findRivals_55 rfl
theorem a_Sf_findRivals_57 : dk_at b_Sf_findRivals 57 t_Sf_findRivals_57 := dk_go 1 a_Sf_findRivals_56 rfl
theorem a_Sf_findRivals_58 : dk_at b_Sf_findRivals 58 t_Sf_findRivals_58 := dk_go 1 a_Sf_findRivals_57 rfl
theorem a_Sf_findRivals_60 : dk_at b_Sf_findRivals 60 t_Sf_findRivals_60 := dk_go 2 a_Sf_findRivals_58 rfl
theorem a_Sf_findRivals_63 : dk_at b_Sf_findRivals 63 t_Sf_findRivals_63 := dk_go 3 a_Sf_findRivals_60 rfl
theorem a_Sf_findRivals_64 : dk_at b_Sf_findRivals 64 t_Sf_findRivals_64 := dk_go 1 a_Sf_findRivals_63 rfl
theorem a_Sf_findRivals_65 : dk_at b_Sf_findRivals 65 t_Sf_findRivals_65 := dk_go 1 a_Sf_findRivals_64 rfl
theorem a_Sf_findRivals_68 : dk_at b_Sf_findRivals 68 t_Sf_findRivals_68 := dk_go 3 a_Sf_findRivals_65 rfl
theorem a_Sf_findRivals_69 : dk_at b_Sf_findRivals 69 t_Sf_findRivals_69 := dk_go 1 a_Sf_findRivals_68 rfl
theorem a_Sf_findRivals_70 : dk_at b_Sf_findRivals 70 t_Sf_findRivals_70 := dk_go 1 a_Sf_findRivals_69 rfl
theorem a_Sf_findRivals_71 : dk_at b_Sf_findRivals 71 t_Sf_findRivals_71 := dk_go 1 a_Sf_findRivals_70 rfl
theorem a_Sf_findRivals_72 : dk_at b_Sf_findRivals 72 t_Sf_findRivals_72 := dk_go 1 a_Sf_findRivals_71 rfl
theorem a_Sf_findRivals_75 : dk_at b_Sf_findRivals 75 t_Sf_findRivals_75 := dk_go 3 a_Sf_findRivals_72 rfl
theorem a_Sf_findRivals_76 : dk_at b_Sf_findRivals 76 t_Sf_findRivals_76 := dk_go 1 a_Sf_findRivals_75 rfl
theorem a_Sf_findRivals_77 : dk_at b_Sf_findRivals 77 t_Sf_findRivals_77 := dk_go 1 a_Sf_findRivals_76 rfl
theorem a_Sf_findRivals_78 : dk_at b_Sf_findRivals 78 t_Sf_findRivals_78 := dk_go 1 a_Sf_findRivals_77 rfl
theorem a_Sf_findRivals_81 : dk_at b_Sf_findRivals 81 t_Sf_findRivals_81 := dk_go 3 a_Sf_findRivals_78 rfl
theorem a_Sf_findRivals_82 : dk_at b_Sf_findRivals 82 t_Sf_findRivals_82 := dk_go 1 a_Sf_findRivals_81 rfl
theorem a_Sf_findRivals_83 : dk_at b_Sf_findRivals 83 t_Sf_findRivals_83 := dk_go 1 a_Sf_findRivals_82 rfl
theorem a_Sf_findRivals_84 : dk_at b_Sf_findRivals 84 t_Sf_findRivals_84 := dk_go 1 a_Sf_findRivals_83 rfl
theorem a_Sf_findRivals_87 : dk_at b_Sf_findRivals 87 t_Sf_findRivals_87 := dk_go 3 a_Sf_findRivals_84 rfl
theorem a_Sf_findRivals_90 : dk_at b_Sf_findRivals 90 t_Sf_findRivals_90 := dk_go 3 a_Sf_findRivals_87 rfl
theorem a_Sf_findRivals_91 : dk_at b_Sf_findRivals 91 t_Sf_findRivals_91 := dk_go 1 a_Sf_findRivals_90 rfl
theorem a_Sf_findRivals_92 : dk_at b_Sf_findRivals 92 t_Sf_findRivals_92 := dk_go 1 a_Sf_findRivals_91 rfl
theorem a_Sf_findRivals_93 : dk_at b_Sf_findRivals 93 t_Sf_findRivals_93 := dk_go 1 a_Sf_findRivals_92 rfl
theorem a_Sf_findRivals_94 : dk_at b_Sf_findRivals 94 t_Sf_findRivals_94 := dk_go 1 a_Sf_findRivals_93 rfl
theorem a_Sf_findRivals_95 : dk_at b_Sf_findRivals 95 t_Sf_findRivals_95 := dk_go 1 a_Sf_findRivals_94 rfl
theorem a_Sf_findRivals_97 : dk_at b_Sf_findRivals 97 t_Sf_findRivals_97 := dk_go 2 a_Sf_findRivals_95 rfl
theorem a_Sf_findRivals_100 : dk_at b_Sf_findRivals 100 t_Sf_findRivals_100 := dk_go 3 a_Sf_findRivals_97 rfl
theorem a_Sf_findRivals_101 : dk_at b_Sf_findRivals 101 t_Sf_findRivals_101 := dk_go 1 a_Sf_findRivals_100 rfl
theorem a_Sf_findRivals_102 : dk_at b_Sf_findRivals 102 t_Sf_findRivals_102 := dk_go 1 a_Sf_findRivals_101 rfl
theorem a_Sf_findRivals_105 : dk_at b_Sf_findRivals 105 t_Sf_findRivals_105 := dk_go 3 a_Sf_findRivals_102 rfl
theorem a_Sf_findRivals_108 : dk_at b_Sf_findRivals 108 t_Sf_findRivals_108 := dk_go 3 a_Sf_findRivals_105 rfl
theorem a_Sf_findRivals_109 : dk_at b_Sf_findRivals 109 t_Sf_findRivals_109 := dk_go 1 a_Sf_findRivals_108 rfl
theorem a_Sf_findRivals_110 : dk_at b_Sf_findRivals 110 t_Sf_findRivals_110 := dk_go 1 a_Sf_findRivals_109 rfl
theorem a_Sf_findRivals_111 : dk_at b_Sf_findRivals 111 t_Sf_findRivals_111 := dk_go 1 a_Sf_findRivals_110 rfl
theorem a_Sf_findRivals_112 : dk_at b_Sf_findRivals 112 t_Sf_findRivals_112 := dk_go 1 a_Sf_findRivals_111 rfl
theorem a_Sf_findRivals_113 : dk_at b_Sf_findRivals 113 t_Sf_findRivals_113 := dk_go 1 a_Sf_findRivals_112 rfl
theorem a_Sf_findRivals_114 : dk_at b_Sf_findRivals 114 t_Sf_findRivals_114 := dk_go 1 a_Sf_findRivals_113 rfl
theorem a_Sf_findRivals_115 : dk_at b_Sf_findRivals 115 t_Sf_findRivals_115 := dk_go 1 a_Sf_findRivals_114 rfl
theorem a_Sf_findRivals_116 : dk_at b_Sf_findRivals 116 t_Sf_findRivals_116 := dk_go 1 a_Sf_findRivals_115 rfl
theorem a_Sf_findRivals_117 : dk_at b_Sf_findRivals 117 t_Sf_findRivals_117 := dk_go 1 a_Sf_findRivals_116 rfl
theorem a_Sf_findRivals_118 : dk_at b_Sf_findRivals 118 t_Sf_findRivals_118 := dk_go 1 a_Sf_findRivals_117 rfl
theorem a_Sf_findRivals_119 : dk_at b_Sf_findRivals 119 t_Sf_findRivals_119 := dk_go 1 a_Sf_findRivals_118 rfl
theorem a_Sf_findRivals_121 : dk_at b_Sf_findRivals 121 t_Sf_findRivals_121 := dk_go 2 a_Sf_findRivals_119 rfl
theorem a_Sf_findRivals_122 : dk_at b_Sf_findRivals 122 t_Sf_findRivals_122 := dk_go 1 a_Sf_findRivals_121 rfl
theorem a_Sf_findRivals_125 : dk_at b_Sf_findRivals 125 t_Sf_findRivals_125 := dk_go 3 a_Sf_findRivals_122 rfl
theorem a_Sf_findRivals_126 : dk_at b_Sf_findRivals 126 t_Sf_findRivals_126 := dk_go 1 a_Sf_findRivals_125 rfl
theorem a_Sf_findRivals_127 : dk_at b_Sf_findRivals 127 t_Sf_findRivals_127 := dk_go 1 a_Sf_findRivals_126 rfl
theorem a_Sf_findRivals_130 : dk_at b_Sf_findRivals 130 t_Sf_findRivals_130 := dk_go 3 a_Sf_findRivals_127 rfl
theorem a_Sf_findRivals_131 : dk_at b_Sf_findRivals 131 t_Sf_findRivals_131 := dk_go 1 a_Sf_findRivals_130 rfl
theorem a_Sf_findRivals_132 : dk_at b_Sf_findRivals 132 t_Sf_findRivals_132 := dk_go 1 a_Sf_findRivals_131 rfl
theorem a_Sf_findRivals_133 : dk_at b_Sf_findRivals 133 t_Sf_findRivals_133 := dk_go 1 a_Sf_findRivals_132 rfl
theorem a_Sf_findRivals_134 : dk_at b_Sf_findRivals 134 t_Sf_findRivals_134 := dk_go 1 a_Sf_findRivals_133 rfl
theorem a_Sf_findRivals_137 : dk_at b_Sf_findRivals 137 t_Sf_findRivals_137 := dk_go 3 a_Sf_findRivals_134 rfl
theorem a_Sf_findRivals_139 : dk_at b_Sf_findRivals 139 t_Sf_findRivals_139 := dk_go 2 a_Sf_findRivals_137 rfl
theorem a_Sf_findRivals_142 : dk_at b_Sf_findRivals 142 t_Sf_findRivals_142 := dk_go 3 a_Sf_findRivals_139 rfl
theorem a_Sf_findRivals_143 : dk_at b_Sf_findRivals 143 t_Sf_findRivals_143 := dk_go 1 a_Sf_findRivals_142 rfl
theorem a_Sf_findRivals_144 : dk_at b_Sf_findRivals 144 t_Sf_findRivals_144 := dk_go 1 a_Sf_findRivals_143 rfl
theorem a_Sf_findRivals_145 : dk_at b_Sf_findRivals 145 t_Sf_findRivals_145 := dk_go 1 a_Sf_findRivals_144 rfl
theorem a_Sf_findRivals_148 : dk_at b_Sf_findRivals 148 t_Sf_findRivals_148 := dk_go 3 a_Sf_findRivals_145 rfl
theorem a_Sf_findRivals_149 : dk_at b_Sf_findRivals 149 t_Sf_findRivals_149 := dk_go 1 a_Sf_findRivals_148 rfl
theorem a_Sf_findRivals_152 : dk_at b_Sf_findRivals 152 t_Sf_findRivals_152 := dk_go 3 a_Sf_findRivals_149 rfl
theorem a_Sf_findRivals_153 : dk_at b_Sf_findRivals 153 t_Sf_findRivals_153 := dk_go 1 a_Sf_findRivals_152 rfl
theorem a_Sf_findRivals_154 : dk_at b_Sf_findRivals 154 t_Sf_findRivals_154 := dk_go 1 a_Sf_findRivals_153 rfl
theorem a_Sf_findRivals_157 : dk_at b_Sf_findRivals 157 t_Sf_findRivals_157 := dk_go 3 a_Sf_findRivals_154 rfl
theorem a_Sf_findRivals_158 : dk_at b_Sf_findRivals 158 t_Sf_findRivals_158 := dk_go 1 a_Sf_findRivals_157 rfl
theorem a_Sf_findRivals_161 : dk_at b_Sf_findRivals 161 t_Sf_findRivals_161 := dk_go 3 a_Sf_findRivals_158 rfl
theorem a_Sf_findRivals_162 : dk_at b_Sf_findRivals 162 t_Sf_findRivals_162 := dk_go 1 a_Sf_findRivals_161 rfl
theorem a_Sf_findRivals_163 : dk_at b_Sf_findRivals 163 t_Sf_findRivals_163 := dk_go 1 a_Sf_findRivals_162 rfl
theorem a_Sf_findRivals_166 : dk_at b_Sf_findRivals 166 t_Sf_findRivals_166 := dk_go 3 a_Sf_findRivals_163 rfl
theorem a_Sf_findRivals_169 : dk_at b_Sf_findRivals 169 t_Sf_findRivals_169 := dk_go 3 a_Sf_findRivals_166 rfl
theorem a_Sf_findRivals_170 : dk_at b_Sf_findRivals 170 t_Sf_findRivals_170 := dk_go 1 a_Sf_findRivals_169 rfl
theorem d_Sf_findRivals_0 : decode b_Sf_findRivals 0 = .ok (.iconst 0, 1) := dk_0 a_Sf_findRivals_0 (dko_3 _)
theorem d_Sf_findRivals_1 : decode b_Sf_findRivals 1 = .ok (.istore_n 1, 1) := dk_0 a_Sf_findRivals_1 (dko_60 _)
theorem d_Sf_findRivals_2 : decode b_Sf_findRivals 2 = .ok (.iload_n 1, 1) := dk_0 a_Sf_findRivals_2 (dko_27 _)
theorem d_Sf_findRivals_3 : decode b_Sf_findRivals 3 = .ok (.aload_n 0, 1) := dk_0 a_Sf_findRivals_3 (dko_42 _)
theorem d_Sf_findRivals_4 : decode b_Sf_findRivals 4 = .ok (.getfield 25, 3) := dk_U2 a_Sf_findRivals_4 (dko_180 _) rfl
theorem d_Sf_findRivals_7 : decode b_Sf_findRivals 7 = .ok (.getfield 60, 3) := dk_U2 a_Sf_findRivals_7 (dko_180 _) rfl
theorem d_Sf_findRivals_10 : decode b_Sf_findRivals 10 = .ok (.getfield 66, 3) := dk_U2 a_Sf_findRivals_10 (dko_180 _) rfl
theorem d_Sf_findRivals_13 : decode b_Sf_findRivals 13 = .ok (.aload_n 0, 1) := dk_0 a_Sf_findRivals_13 (dko_42 _)
theorem d_Sf_findRivals_14 : decode b_Sf_findRivals 14 = .ok (.getfield 25, 3) := dk_U2 a_Sf_findRivals_14 (dko_180 _) rfl
theorem d_Sf_findRivals_17 : decode b_Sf_findRivals 17 = .ok (.getfield 60, 3) := dk_U2 a_Sf_findRivals_17 (dko_180 _) rfl
theorem d_Sf_findRivals_20 : decode b_Sf_findRivals 20 = .ok (.getfield 95, 3) := dk_U2 a_Sf_findRivals_20 (dko_180 _) rfl
theorem d_Sf_findRivals_23 : decode b_Sf_findRivals 23 = .ok (.iadd, 1) := dk_0 a_Sf_findRivals_23 (dko_96 _)
theorem d_Sf_findRivals_24 : decode b_Sf_findRivals 24 = .ok (.if_icmp .ge 29, 3) := dk_S2 a_Sf_findRivals_24 (dko_162 _) (by decide +kernel)
theorem d_Sf_findRivals_27 : decode b_Sf_findRivals 27 = .ok (.aload_n 0, 1) := dk_0 a_Sf_findRivals_27 (dko_42 _)
theorem d_Sf_findRivals_28 : decode b_Sf_findRivals 28 = .ok (.getfield 9, 3) := dk_U2 a_Sf_findRivals_28 (dko_180 _) rfl
theorem d_Sf_findRivals_31 : decode b_Sf_findRivals 31 = .ok (.aload_n 0, 1) := dk_0 a_Sf_findRivals_31 (dko_42 _)
theorem d_Sf_findRivals_32 : decode b_Sf_findRivals 32 = .ok (.getfield 25, 3) := dk_U2 a_Sf_findRivals_32 (dko_180 _) rfl
theorem d_Sf_findRivals_35 : decode b_Sf_findRivals 35 = .ok (.getfield 98, 3) := dk_U2 a_Sf_findRivals_35 (dko_180 _) rfl
theorem d_Sf_findRivals_38 : decode b_Sf_findRivals 38 = .ok (.iload_n 1, 1) := dk_0 a_Sf_findRivals_38 (dko_27 _)
theorem d_Sf_findRivals_39 : decode b_Sf_findRivals 39 = .ok (.iaload, 1) := dk_0 a_Sf_findRivals_39 (dko_46 _)
theorem d_Sf_findRivals_40 : decode b_Sf_findRivals 40 = .ok (.dup2, 1) := dk_0 a_Sf_findRivals_40 (dko_92 _)
theorem d_Sf_findRivals_41 : decode b_Sf_findRivals 41 = .ok (.laload, 1) := dk_0 a_Sf_findRivals_41 (dko_47 _)
theorem d_Sf_findRivals_42 : decode b_Sf_findRivals 42 = .ok (.lconst 1, 1) := dk_0 a_Sf_findRivals_42 (dko_10 _)
theorem d_Sf_findRivals_43 : decode b_Sf_findRivals 43 = .ok (.iload_n 1, 1) := dk_0 a_Sf_findRivals_43 (dko_27 _)
theorem d_Sf_findRivals_44 : decode b_Sf_findRivals 44 = .ok (.lshl, 1) := dk_0 a_Sf_findRivals_44 (dko_121 _)
theorem d_Sf_findRivals_45 : decode b_Sf_findRivals 45 = .ok (.lor, 1) := dk_0 a_Sf_findRivals_45 (dko_129 _)
theorem d_Sf_findRivals_46 : decode b_Sf_findRivals 46 = .ok (.lastore, 1) := dk_0 a_Sf_findRivals_46 (dko_80 _)
theorem d_Sf_findRivals_47 : decode b_Sf_findRivals 47 = .ok (.iinc 1 1, 3) := dk_US a_Sf_findRivals_47 (dko_132 _) (by decide +kernel)
theorem d_Sf_findRivals_50 : decode b_Sf_findRivals 50 = .ok (.goto (-48), 3) := dk_S2 a_Sf_findRivals_50 (dko_167 _) (by decide +kernel)
theorem d_Sf_findRivals_53 : decode b_Sf_findRivals 53 = .ok (.iconst 0, 1) := dk_0 a_Sf_findRivals_53 (dko_3 _)
theorem d_Sf_findRivals_54 : decode b_Sf_findRivals 54 = .ok (.istore_n 1, 1) := dk_0 a_Sf_findRivals_54 (dko_60 _)
theorem d_Sf_findRivals_55 : decode b_Sf_findRivals 55 = .ok (.iconst 1, 1) := dk_0 a_Sf_findRivals_55 (dko_4 _)
theorem d_Sf_findRivals_56 : decode b_Sf_findRivals 56 = .ok (.istore_n 2, 1) := dk_0 a_Sf_findRivals_56 (dko_61 _)
theorem d_Sf_findRivals_57 : decode b_Sf_findRivals 57 = .ok (.iload_n 2, 1) := dk_0 a_Sf_findRivals_57 (dko_28 _)
theorem d_Sf_findRivals_58 : decode b_Sf_findRivals 58 = .ok (.bipush 14, 2) := dk_S1 a_Sf_findRivals_58 (dko_16 _) (by decide +kernel)
theorem d_Sf_findRivals_60 : decode b_Sf_findRivals 60 = .ok (.if_icmp .gt 30, 3) := dk_S2 a_Sf_findRivals_60 (dko_163 _) (by decide +kernel)
theorem d_Sf_findRivals_63 : decode b_Sf_findRivals 63 = .ok (.iload_n 1, 1) := dk_0 a_Sf_findRivals_63 (dko_27 _)
theorem d_Sf_findRivals_64 : decode b_Sf_findRivals 64 = .ok (.aload_n 0, 1) := dk_0 a_Sf_findRivals_64 (dko_42 _)
theorem d_Sf_findRivals_65 : decode b_Sf_findRivals 65 = .ok (.getfield 9, 3) := dk_U2 a_Sf_findRivals_65 (dko_180 _) rfl
theorem d_Sf_findRivals_68 : decode b_Sf_findRivals 68 = .ok (.iload_n 2, 1) := dk_0 a_Sf_findRivals_68 (dko_28 _)
theorem d_Sf_findRivals_69 : decode b_Sf_findRivals 69 = .ok (.laload, 1) := dk_0 a_Sf_findRivals_69 (dko_47 _)
theorem d_Sf_findRivals_70 : decode b_Sf_findRivals 70 = .ok (.lconst 0, 1) := dk_0 a_Sf_findRivals_70 (dko_9 _)
theorem d_Sf_findRivals_71 : decode b_Sf_findRivals 71 = .ok (.lcmp, 1) := dk_0 a_Sf_findRivals_71 (dko_148 _)
theorem d_Sf_findRivals_72 : decode b_Sf_findRivals 72 = .ok (.ifCond .eq 9, 3) := dk_S2 a_Sf_findRivals_72 (dko_153 _) (by decide +kernel)
theorem d_Sf_findRivals_75 : decode b_Sf_findRivals 75 = .ok (.iconst 1, 1) := dk_0 a_Sf_findRivals_75 (dko_4 _)
theorem d_Sf_findRivals_76 : decode b_Sf_findRivals 76 = .ok (.iload_n 2, 1) := dk_0 a_Sf_findRivals_76 (dko_28 _)
theorem d_Sf_findRivals_77 : decode b_Sf_findRivals 77 = .ok (.ishl, 1) := dk_0 a_Sf_findRivals_77 (dko_120 _)
theorem d_Sf_findRivals_78 : decode b_Sf_findRivals 78 = .ok (.goto 4, 3) := dk_S2 a_Sf_findRivals_78 (dko_167 _) (by decide +kernel)
theorem d_Sf_findRivals_81 : decode b_Sf_findRivals 81 = .ok (.iconst 0, 1) := dk_0 a_Sf_findRivals_81 (dko_3 _)
theorem d_Sf_findRivals_82 : decode b_Sf_findRivals 82 = .ok (.ior, 1) := dk_0 a_Sf_findRivals_82 (dko_128 _)
theorem d_Sf_findRivals_83 : decode b_Sf_findRivals 83 = .ok (.istore_n 1, 1) := dk_0 a_Sf_findRivals_83 (dko_60 _)
theorem d_Sf_findRivals_84 : decode b_Sf_findRivals 84 = .ok (.iinc 2 1, 3) := dk_US a_Sf_findRivals_84 (dko_132 _) (by decide +kernel)
theorem d_Sf_findRivals_87 : decode b_Sf_findRivals 87 = .ok (.goto (-30), 3) := dk_S2 a_Sf_findRivals_87 (dko_167 _) (by decide +kernel)
theorem d_Sf_findRivals_90 : decode b_Sf_findRivals 90 = .ok (.iconst 0, 1) := dk_0 a_Sf_findRivals_90 (dko_3 _)
theorem d_Sf_findRivals_91 : decode b_Sf_findRivals 91 = .ok (.istore_n 2, 1) := dk_0 a_Sf_findRivals_91 (dko_61 _)
theorem d_Sf_findRivals_92 : decode b_Sf_findRivals 92 = .ok (.iconst 1, 1) := dk_0 a_Sf_findRivals_92 (dko_4 _)
theorem d_Sf_findRivals_93 : decode b_Sf_findRivals 93 = .ok (.istore_n 3, 1) := dk_0 a_Sf_findRivals_93 (dko_62 _)
theorem d_Sf_findRivals_94 : decode b_Sf_findRivals 94 = .ok (.iload_n 3, 1) := dk_0 a_Sf_findRivals_94 (dko_29 _)
theorem d_Sf_findRivals_95 : decode b_Sf_findRivals 95 = .ok (.bipush 14, 2) := dk_S1 a_Sf_findRivals_95 (dko_16 _) (by decide +kernel)
theorem d_Sf_findRivals_97 : decode b_Sf_findRivals 97 = .ok (.if_icmp .gt 72, 3) := dk_S2 a_Sf_findRivals_97 (dko_163 _) (by decide +kernel)
theorem d_Sf_findRivals_100 : decode b_Sf_findRivals 100 = .ok (.iload_n 1, 1) := dk_0 a_Sf_findRivals_100 (dko_27 _)
theorem d_Sf_findRivals_101 : decode b_Sf_findRivals 101 = .ok (.aload_n 0, 1) := dk_0 a_Sf_findRivals_101 (dko_42 _)
theorem d_Sf_findRivals_102 : decode b_Sf_findRivals 102 = .ok (.getfield 25, 3) := dk_U2 a_Sf_findRivals_102 (dko_180 _) rfl
theorem d_Sf_findRivals_105 : decode b_Sf_findRivals 105 = .ok (.getfield 101, 3) := dk_U2 a_Sf_findRivals_105 (dko_180 _) rfl
theorem d_Sf_findRivals_108 : decode b_Sf_findRivals 108 = .ok (.iload_n 3, 1) := dk_0 a_Sf_findRivals_108 (dko_29 _)
theorem d_Sf_findRivals_109 : decode b_Sf_findRivals 109 = .ok (.iaload, 1) := dk_0 a_Sf_findRivals_109 (dko_46 _)
theorem d_Sf_findRivals_110 : decode b_Sf_findRivals 110 = .ok (.iconst (-1), 1) := dk_0 a_Sf_findRivals_110 (dko_2 _)
theorem d_Sf_findRivals_111 : decode b_Sf_findRivals 111 = .ok (.ixor, 1) := dk_0 a_Sf_findRivals_111 (dko_130 _)
theorem d_Sf_findRivals_112 : decode b_Sf_findRivals 112 = .ok (.iand, 1) := dk_0 a_Sf_findRivals_112 (dko_126 _)
theorem d_Sf_findRivals_113 : decode b_Sf_findRivals 113 = .ok (.iconst 1, 1) := dk_0 a_Sf_findRivals_113 (dko_4 _)
theorem d_Sf_findRivals_114 : decode b_Sf_findRivals 114 = .ok (.iload_n 3, 1) := dk_0 a_Sf_findRivals_114 (dko_29 _)
theorem d_Sf_findRivals_115 : decode b_Sf_findRivals 115 = .ok (.ishl, 1) := dk_0 a_Sf_findRivals_115 (dko_120 _)
theorem d_Sf_findRivals_116 : decode b_Sf_findRivals 116 = .ok (.iconst (-1), 1) := dk_0 a_Sf_findRivals_116 (dko_2 _)
theorem d_Sf_findRivals_117 : decode b_Sf_findRivals 117 = .ok (.ixor, 1) := dk_0 a_Sf_findRivals_117 (dko_130 _)
theorem d_Sf_findRivals_118 : decode b_Sf_findRivals 118 = .ok (.iand, 1) := dk_0 a_Sf_findRivals_118 (dko_126 _)
theorem d_Sf_findRivals_119 : decode b_Sf_findRivals 119 = .ok (.istore 4, 2) := dk_U1 a_Sf_findRivals_119 (dko_54 _) rfl
theorem d_Sf_findRivals_121 : decode b_Sf_findRivals 121 = .ok (.aload_n 0, 1) := dk_0 a_Sf_findRivals_121 (dko_42 _)
theorem d_Sf_findRivals_122 : decode b_Sf_findRivals 122 = .ok (.getfield 15, 3) := dk_U2 a_Sf_findRivals_122 (dko_180 _) rfl
theorem d_Sf_findRivals_125 : decode b_Sf_findRivals 125 = .ok (.iload_n 3, 1) := dk_0 a_Sf_findRivals_125 (dko_29 _)
theorem d_Sf_findRivals_126 : decode b_Sf_findRivals 126 = .ok (.aload_n 0, 1) := dk_0 a_Sf_findRivals_126 (dko_42 _)
theorem d_Sf_findRivals_127 : decode b_Sf_findRivals 127 = .ok (.getfield 9, 3) := dk_U2 a_Sf_findRivals_127 (dko_180 _) rfl
theorem d_Sf_findRivals_130 : decode b_Sf_findRivals 130 = .ok (.iload_n 3, 1) := dk_0 a_Sf_findRivals_130 (dko_29 _)
theorem d_Sf_findRivals_131 : decode b_Sf_findRivals 131 = .ok (.laload, 1) := dk_0 a_Sf_findRivals_131 (dko_47 _)
theorem d_Sf_findRivals_132 : decode b_Sf_findRivals 132 = .ok (.lconst 0, 1) := dk_0 a_Sf_findRivals_132 (dko_9 _)
theorem d_Sf_findRivals_133 : decode b_Sf_findRivals 133 = .ok (.lcmp, 1) := dk_0 a_Sf_findRivals_133 (dko_148 _)
theorem d_Sf_findRivals_134 : decode b_Sf_findRivals 134 = .ok (.ifCond .eq 8, 3) := dk_S2 a_Sf_findRivals_134 (dko_153 _) (by decide +kernel)
theorem d_Sf_findRivals_137 : decode b_Sf_findRivals 137 = .ok (.iload 4, 2) := dk_U1 a_Sf_findRivals_137 (dko_21 _) rfl
theorem d_Sf_findRivals_139 : decode b_Sf_findRivals 139 = .ok (.goto 4, 3) := dk_S2 a_Sf_findRivals_139 (dko_167 _) (by decide +kernel)
theorem d_Sf_findRivals_142 : decode b_Sf_findRivals 142 = .ok (.iconst 0, 1) := dk_0 a_Sf_findRivals_142 (dko_3 _)
theorem d_Sf_findRivals_143 : decode b_Sf_findRivals 143 = .ok (.iastore, 1) := dk_0 a_Sf_findRivals_143 (dko_79 _)
theorem d_Sf_findRivals_144 : decode b_Sf_findRivals 144 = .ok (.iload_n 2, 1) := dk_0 a_Sf_findRivals_144 (dko_28 _)
theorem d_Sf_findRivals_145 : decode b_Sf_findRivals 145 = .ok (.ifCond .ne 12, 3) := dk_S2 a_Sf_findRivals_145 (dko_154 _) (by decide +kernel)
theorem d_Sf_findRivals_148 : decode b_Sf_findRivals 148 = .ok (.aload_n 0, 1) := dk_0 a_Sf_findRivals_148 (dko_42 _)
theorem d_Sf_findRivals_149 : decode b_Sf_findRivals 149 = .ok (.getfield 15, 3) := dk_U2 a_Sf_findRivals_149 (dko_180 _) rfl
theorem d_Sf_findRivals_152 : decode b_Sf_findRivals 152 = .ok (.iload_n 3, 1) := dk_0 a_Sf_findRivals_152 (dko_29 _)
theorem d_Sf_findRivals_153 : decode b_Sf_findRivals 153 = .ok (.iaload, 1) := dk_0 a_Sf_findRivals_153 (dko_46 _)
theorem d_Sf_findRivals_154 : decode b_Sf_findRivals 154 = .ok (.ifCond .eq 7, 3) := dk_S2 a_Sf_findRivals_154 (dko_153 _) (by decide +kernel)
theorem d_Sf_findRivals_157 : decode b_Sf_findRivals 157 = .ok (.iconst 1, 1) := dk_0 a_Sf_findRivals_157 (dko_4 _)
theorem d_Sf_findRivals_158 : decode b_Sf_findRivals 158 = .ok (.goto 4, 3) := dk_S2 a_Sf_findRivals_158 (dko_167 _) (by decide +kernel)
theorem d_Sf_findRivals_161 : decode b_Sf_findRivals 161 = .ok (.iconst 0, 1) := dk_0 a_Sf_findRivals_161 (dko_3 _)
theorem d_Sf_findRivals_162 : decode b_Sf_findRivals 162 = .ok (.istore_n 2, 1) := dk_0 a_Sf_findRivals_162 (dko_61 _)
theorem d_Sf_findRivals_163 : decode b_Sf_findRivals 163 = .ok (.iinc 3 1, 3) := dk_US a_Sf_findRivals_163 (dko_132 _) (by decide +kernel)
theorem d_Sf_findRivals_166 : decode b_Sf_findRivals 166 = .ok (.goto (-72), 3) := dk_S2 a_Sf_findRivals_166 (dko_167 _) (by decide +kernel)
theorem d_Sf_findRivals_169 : decode b_Sf_findRivals 169 = .ok (.iload_n 2, 1) := dk_0 a_Sf_findRivals_169 (dko_28 _)
theorem d_Sf_findRivals_170 : decode b_Sf_findRivals 170 = .ok (.ireturn, 1) := dk_0 a_Sf_findRivals_170 (dko_172 _)
set_option maxHeartbeats 4000000 in
set_option maxRecDepth 100000 in
theorem ok_Sf_findRivals (pc : Nat) : OpS mt mi_Sf_findRivals pc (cs_Sf_findRivals pc) := (os_n (os_n (os_n (os_n (os_n (os_n (os_l (so_iconst d_Sf_findRivals_0 (by decide))) (os_n (os_l (so_istore_n d_Sf_findRivals_1 rfl (by decide))) (os_l (so_iload_n d_Sf_findRivals_2 rfl)))) (os_n (os_l (so_aload_n d_Sf_findRivals_3 rfl)) (os_n (os_l (so_get (C := R_Sf) (T := F_Sf) (N := 10) (j := 0) in_Sf rfl (by decide) mw_282 d_Sf_findRivals_4)) (os_l (so_get (C := R_St) (T := F_St) (N := 12) (j := 0) in_St rfl (by decide) mw_150 d_Sf_findRivals_7))))) (os_n (os_n (os_l (so_get (C := R_Pl) (T := F_Pl) (N := 12) (j := 0) in_Pl rfl (by decide) mw_87 d_Sf_findRivals_10)) (os_n (os_l (so_aload_n d_Sf_findRivals_13 rfl)) (os_l (so_get (C := R_Sf) (T := F_Sf) (N := 10) (j := 0) in_Sf rfl (by decide) mw_282 d_Sf_findRivals_14)))) (os_n (os_n (os_l (so_get (C := R_St) (T := F_St) (N := 12) (j := 0) in_St rfl (by decide) mw_150 d_Sf_findRivals_17)) (os_l (so_get (C := R_Pl) (T := F_Pl) (N := 12) (j := 1) in_Pl rfl (by decide) mw_93 d_Sf_findRivals_20))) (os_n (os_l (so_iadd d_Sf_findRivals_23)) (os_l (so_icge d_Sf_findRivals_24 (by decide))))))) (os_n (os_n (os_n (os_l (so_aload_n d_Sf_findRivals_27 rfl)) (os_n (os_l (so_get (C := R_Sf) (T := F_Sf) (N := 10) (j := 2) in_Sf rfl (by decide) mw_284 d_Sf_findRivals_28)) (os_l (so_aload_n d_Sf_findRivals_31 rfl)))) (os_n (os_l (so_get (C := R_Sf) (T := F_Sf) (N := 10) (j := 0) in_Sf rfl (by decide) mw_282 d_Sf_findRivals_32)) (os_n (os_l (so_get (C := R_St) (T := F_St) (N := 12) (j := 3) in_St rfl (by decide) mw_163 d_Sf_findRivals_35)) (os_l (so_iload_n d_Sf_findRivals_38 rfl))))) (os_n (os_n (os_l (so_iaload d_Sf_findRivals_39)) (os_n (os_l (so_dup2 d_Sf_findRivals_40)) (os_l (so_laload d_Sf_findRivals_41)))) (os_n (os_n (os_l (so_lconst d_Sf_findRivals_42 (by decide))) (os_l (so_iload_n d_Sf_findRivals_43 rfl))) (os_n (os_l (so_lshl d_Sf_findRivals_44)) (os_l (so_lor d_Sf_findRivals_45))))))) (os_n (os_n (os_n (os_n (os_l (so_lastore d_Sf_findRivals_46)) (os_n (os_l (so_iinc d_Sf_findRivals_47 (by decide) (by decide))) (os_l (so_goto d_Sf_findRivals_50 (by decide))))) (os_n (os_l (so_iconst d_Sf_findRivals_53 (by decide))) (os_n (os_l (so_istore_n d_Sf_findRivals_54 rfl (by decide))) (os_l (so_iconst d_Sf_findRivals_55 (by decide)))))) (os_n (os_n (os_l (so_istore_n d_Sf_findRivals_56 rfl (by decide))) (os_n (os_l (so_iload_n d_Sf_findRivals_57 rfl)) (os_l (so_bipush d_Sf_findRivals_58 (by decide))))) (os_n (os_n (os_l (so_icgt d_Sf_findRivals_60 (by decide))) (os_l (so_iload_n d_Sf_findRivals_63 rfl))) (os_n (os_l (so_aload_n d_Sf_findRivals_64 rfl)) (os_l (so_get (C := R_Sf) (T := F_Sf) (N := 10) (j := 2) in_Sf rfl (by decide) mw_284 d_Sf_findRivals_65)))))) (os_n (os_n (os_n (os_l (so_iload_n d_Sf_findRivals_68 rfl)) (os_n (os_l (so_laload d_Sf_findRivals_69)) (os_l (so_lconst d_Sf_findRivals_70 (by decide))))) (os_n (os_l (so_lcmp d_Sf_findRivals_71)) (os_n (os_l (so_ifeq d_Sf_findRivals_72 (by decide))) (os_l (so_iconst d_Sf_findRivals_75 (by decide)))))) (os_n (os_n (os_l (so_iload_n d_Sf_findRivals_76 rfl)) (os_n (os_l (so_ishl d_Sf_findRivals_77)) (os_l (so_goto d_Sf_findRivals_78 (by decide))))) (os_n (os_n (os_l (so_iconst d_Sf_findRivals_81 (by decide))) (os_l (so_ior d_Sf_findRivals_82))) (os_n (os_l (so_istore_n d_Sf_findRivals_83 rfl (by decide))) (os_l (so_iinc d_Sf_findRivals_84 (by decide) (by decide))))))))) (os_n (os_n (os_n (os_n (os_n (os_l (so_goto d_Sf_findRivals_87 (by decide))) (os_n (os_l (so_iconst d_Sf_findRivals_90 (by decide))) (os_l (so_istore_n d_Sf_findRivals_91 rfl (by decide))))) (os_n (os_l (so_iconst d_Sf_findRivals_92 (by decide))) (os_n (os_l (so_istore_n d_Sf_findRivals_93 rfl (by decide))) (os_l (so_iload_n d_Sf_findRivals_94 rfl))))) (os_n (os_n (os_l (so_bipush d_Sf_findRivals_95 (by decide))) (os_n (os_l (so_icgt d_Sf_findRivals_97 (by decide))) (os_l (so_iload_n d_Sf_findRivals_100 rfl)))) (os_n (os_n (os_l (so_aload_n d_Sf_findRivals_101 rfl)) (os_l (so_get (C := R_Sf) (T := F_Sf) (N := 10) (j := 0) in_Sf rfl (by decide) mw_282 d_Sf_findRivals_102))) (os_n (os_l (so_get (C := R_St) (T := F_St) (N := 12) (j := 9) in_St rfl (by decide) mw_177 d_Sf_findRivals_105)) (os_l (so_iload_n d_Sf_findRivals_108 rfl)))))) (os_n (os_n (os_n (os_l (so_iaload d_Sf_findRivals_109)) (os_n (os_l (so_iconst d_Sf_findRivals_110 (by decide))) (os_l (so_ixor d_Sf_findRivals_111)))) (os_n (os_l (so_iand d_Sf_findRivals_112)) (os_n (os_l (so_iconst d_Sf_findRivals_113 (by decide))) (os_l (so_iload_n d_Sf_findRivals_114 rfl))))) (os_n (os_n (os_l (so_ishl d_Sf_findRivals_115)) (os_n (os_l (so_iconst d_Sf_findRivals_116 (by decide))) (os_l (so_ixor d_Sf_findRivals_117)))) (os_n (os_n (os_l (so_iand d_Sf_findRivals_118)) (os_l (so_istore d_Sf_findRivals_119 (by decide)))) (os_n (os_l (so_aload_n d_Sf_findRivals_121 rfl)) (os_l (so_get (C := R_Sf) (T := F_Sf) (N := 10) (j := 3) in_Sf rfl (by decide) mw_285 d_Sf_findRivals_122))))))) (os_n (os_n (os_n (os_n (os_l (so_iload_n d_Sf_findRivals_125 rfl)) (os_n (os_l (so_aload_n d_Sf_findRivals_126 rfl)) (os_l (so_get (C := R_Sf) (T := F_Sf) (N := 10) (j := 2) in_Sf rfl (by decide) mw_284 d_Sf_findRivals_127)))) (os_n (os_l (so_iload_n d_Sf_findRivals_130 rfl)) (os_n (os_l (so_laload d_Sf_findRivals_131)) (os_l (so_lconst d_Sf_findRivals_132 (by decide)))))) (os_n (os_n (os_l (so_lcmp d_Sf_findRivals_133)) (os_n (os_l (so_ifeq d_Sf_findRivals_134 (by decide))) (os_l (so_iload d_Sf_findRivals_137)))) (os_n (os_n (os_l (so_goto d_Sf_findRivals_139 (by decide))) (os_l (so_iconst d_Sf_findRivals_142 (by decide)))) (os_n (os_l (so_iastore d_Sf_findRivals_143)) (os_l (so_iload_n d_Sf_findRivals_144 rfl)))))) (os_n (os_n (os_n (os_l (so_ifne d_Sf_findRivals_145 (by decide))) (os_n (os_l (so_aload_n d_Sf_findRivals_148 rfl)) (os_l (so_get (C := R_Sf) (T := F_Sf) (N := 10) (j := 3) in_Sf rfl (by decide) mw_285 d_Sf_findRivals_149)))) (os_n (os_n (os_l (so_iload_n d_Sf_findRivals_152 rfl)) (os_l (so_iaload d_Sf_findRivals_153))) (os_n (os_l (so_ifeq d_Sf_findRivals_154 (by decide))) (os_l (so_iconst d_Sf_findRivals_157 (by decide)))))) (os_n (os_n (os_l (so_goto d_Sf_findRivals_158 (by decide))) (os_n (os_l (so_iconst d_Sf_findRivals_161 (by decide))) (os_l (so_istore_n d_Sf_findRivals_162 rfl (by decide))))) (os_n (os_n (os_l (so_iinc d_Sf_findRivals_163 (by decide) (by decide))) (os_l (so_goto d_Sf_findRivals_166 (by decide)))) (os_n (os_l (so_iload_n d_Sf_findRivals_169 rfl)) (os_l (so_zreturn rfl d_Sf_findRivals_170)))))))))
